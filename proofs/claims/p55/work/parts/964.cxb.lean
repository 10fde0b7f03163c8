theorem g_rc_lt {nv : Nat} {g : a_Gr} (hg : gW nv g) : ∀ m k y, k < gN g → g_rc g m k y = true → y < gN g
  | 0, k, y, hk, h => by
    have e : y = k := by simpa [g_rc] using h
    omega
  | m + 1, k, y, hk, h => by
    by_cases h2 : k < 2
    · rw [g_rc_lf _ _ _ _ h2] at h
      have e : y = k := by simpa using h
      omega
    · have h2 : 2 ≤ k := by omega
      obtain ⟨-, q2, q3, -, -⟩ := hg.2.2.2.2 k h2 hk
      rw [g_rc_in _ _ _ _ h2, Bool.or_eq_true, Bool.or_eq_true] at h
      rcases h with (h | h) | h
      · have e : y = k := by simpa using h
        omega
      · exact g_rc_lt hg m _ y q2 h
      · exact g_rc_lt hg m _ y q3 h
theorem gCl.c {nv l : Nat} {g : a_Gr} {M M' : Nat → Bool} (hg : gW nv g) (h : gCl g nv l M) (e : ∀ y, y < gN g → M' y = M y) : gCl g nv l M' := fun k hk hl hM y hy => by
  rw [e y (g_rc_lt hg _ _ _ hk hy)]
  exact h k hk hl (by rw [← e k hk]; exact hM) y hy
section CG
variable {K : mg_K} {b : Nat} {G : mg_G} {nv : Nat} {g : a_Gr}
theorem c6 (H : kD K b) (hR : cGr G b nv g) (hg : gW nv g) (q : Nat) (hq : q < 12) : ∀ m d k dp f, k < gN g → nv ≤ gL g k + m → dp ≤ gL g k → gCl g nv (gL g k) (fun y => a_bt (f y) q) → mg_m K (d + m + 1) 6 [.ref b, .int (Int32.ofNat k), .int (a_bq q), .int (Int32.ofNat dp)] (gM G (b + 6) f) (fun o x G' => o = .inl none ∧ x = 0 ∧ ∃ f', G' = gM G (b + 6) f' ∧ gMq g f f' q (g_rc g nv k)) := by
  have h9 := hg.2.1
  have h8 := hg.2.2.1
  have hb : b + 10 < 1000000 := H.2.2.2.2.2.2.2.2.2.2
  have s6 : K.2[b + 6]? = some (.inl (0, 628)) := H.2.2.2.2.2.1
  have hA : ∀ f : Nat → Int32, mg_A K (gM G (b + 6) f) (b + 6) 0 628 (.inl f) := fun f => by
    have := mg_Ai (K := K) (G := gM G (b + 6) f) s6 (by omega)
    rwa [show (gM G (b + 6) f).1 (b + 6) = f from mg_u_eq _ _ _] at this
  have h4 : ∀ f : Nat → Int32, (gM G (b + 6) f).1 (b + 4) = G.1 (b + 4) := fun f => mg_u_ne _ _ (by omega)
  have h5 : ∀ f : Nat → Int32, (gM G (b + 6) f).1 (b + 5) = G.1 (b + 5) := fun f => mg_u_ne _ _ (by omega)
  have key : ∀ m d k dp f, k < gN g → nv ≤ gL g k + m → dp ≤ gL g k → gCl g nv (gL g k) (fun y => a_bt (f y) q) → (2 ≤ k → ∃ m', m = m' + 1 ∧ ∀ d k dp f, k < gN g → nv ≤ gL g k + m' → dp ≤ gL g k → gCl g nv (gL g k) (fun y => a_bt (f y) q) → mg_m K (d + m' + 1) 6 [.ref b, .int (Int32.ofNat k), .int (a_bq q), .int (Int32.ofNat dp)] (gM G (b + 6) f) (fun o x G' => o = .inl none ∧ x = 0 ∧ ∃ f', G' = gM G (b + 6) f' ∧ gMq g f f' q (g_rc g nv k))) → mg_m K (d + m + 1) 6 [.ref b, .int (Int32.ofNat k), .int (a_bq q), .int (Int32.ofNat dp)] (gM G (b + 6) f) (fun o x G' => o = .inl none ∧ x = 0 ∧ ∃ f', G' = gM G (b + 6) f' ∧ gMq g f f' q (g_rc g nv k)) := fun m d k dp f hk hl hdp hC hrec => by
    have hle := hg.le hk
    refine mg_me [] 60 my_6 ms_6 (Nat.le_of_ble_eq_true rfl) ?_
    refine ⟨fun h => absurd h (mg_nlt (b := 8) (by omega) (by decide)), fun _ => ?_⟩
    refine ⟨_, H.rb, 628, f, k, hA f, mg_ixN (by omega), by omega, fun h0 => ?_, fun h0 => ?_⟩
    · have hM := (a_bt_0 (f k) q (by omega)).mp h0
      have hM1 : ∀ y r, r < 32 → a_bt (mg_u f k (f k ||| a_bq q) y) r = (a_bt (f y) r || (decide (q = r) && y == k)) := fun y r hr => by
        by_cases e : y = k
        · subst e
          rw [mg_u_eq, a_bt_oq _ _ _ hr]
          simp
        · rw [mg_u_ne _ _ e, show (y == k) = false from beq_eq_false_iff_ne.mpr e, Bool.and_false, Bool.or_false]
      refine ⟨_, H.rb, 628, f, k, hA f, mg_ixN (by omega), by omega, ?_⟩
      refine ⟨628, k, s6, mg_ixN (by omega), by omega, fun h2 => ?_, fun h2 => ?_⟩
      · have h2 : k < 2 := (mg_ltN (b := 2) (by omega) (by decide)).mp h2
        refine ⟨rfl, rfl, _, gM_u G (b + 6) k f _, fun y hy r hr => ?_⟩
        rw [hM1 y r hr, g_rc_lf g nv k y h2]
      · have h2 : 2 ≤ k := (mg_leN (a := 2) (by decide) (by omega)).mp h2
        obtain ⟨q1, q2, q3, q4, q5⟩ := hg.2.2.2.2 k h2 hk
        obtain ⟨e2, e3⟩ := hR.2.2.2.2 k h2 hk
        obtain ⟨m', rfl, ih⟩ := hrec h2
        have hC1 : gCl g nv (gL g k + 1) (fun y => a_bt (mg_u f k (f k ||| a_bq q) y) q) := fun k2 hk2 hl2 hM2 y hy => by
          have hM2 : a_bt (mg_u f k (f k ||| a_bq q) k2) q = true := hM2
          have e : k2 ≠ k := fun e => by subst e; omega
          rw [hM1 k2 q (by omega), show (k2 == k) = false from beq_eq_false_iff_ne.mpr e, Bool.and_false, Bool.or_false] at hM2
          show a_bt (mg_u f k (f k ||| a_bq q) y) q = true
          rw [hM1 y q (by omega), show a_bt (f y) q = true from hC k2 hk2 (by omega) hM2 y hy, Bool.true_or]
        have i1 := ih d _ (dp + 1) (mg_u f k (f k ||| a_bq q)) q2 (by omega) (by omega) (hC1.mono (by omega))
        rw [← e2, ← mg_inc dp, ← gM_u, ← h4 (mg_u f k (f k ||| a_bq q)), ← gM_u] at i1
        refine ⟨_, H.lo, 628, _, k, H.A4, mg_ixN (by omega), by omega, Or.inr H.is, mg_m_mono i1 (by omega) ?_⟩
        rintro o x G2 ⟨rfl, rfl, f2, rfl, hf2⟩
        have hC2 : gCl g nv (gL g k + 1) (fun y => a_bt (f2 y) q) := (hC1.add hg q2).c hg (fun y hy => by
          rw [hf2 y hy q (by omega), decide_eq_true rfl, Bool.true_and])
        have i2 := ih d _ (dp + 1) f2 q3 (by omega) (by omega) (hC2.mono (by omega))
        rw [← e3, ← mg_inc dp, ← h5 f2] at i2
        refine ⟨_, H.hi, 628, _, k, H.A5, mg_ixN (by omega), by omega, Or.inr H.is, mg_m_mono i2 (by omega) ?_⟩
        rintro o x G3 ⟨rfl, rfl, f3, rfl, hf3⟩
        refine ⟨rfl, rfl, f3, rfl, fun y hy r hr => ?_⟩
        rw [hf3 y hy r hr, hf2 y hy r hr, hM1 y r hr, g_rc_nv hg h2 hk y]
        cases decide (q = r) <;> simp [Bool.or_assoc]
    · have hM : a_bt (f k) q = true := by
        cases hb : a_bt (f k) q with
        | true => rfl
        | false => exact absurd ((a_bt_0 (f k) q (by omega)).mpr hb) h0
      refine ⟨rfl, rfl, f, rfl, fun y hy r hr => ?_⟩
      by_cases e : q = r
      · subst e
        rw [decide_eq_true rfl, Bool.true_and]
        cases hy2 : g_rc g nv k y with
        | true =>
          have : a_bt (f y) q = true := hC k hk (Nat.le_refl _) hM y hy2
          rw [this]
          rfl
        | false => rw [Bool.or_false]
      · rw [decide_eq_false e, Bool.false_and, Bool.or_false]
  intro m
  induction m with
  | zero =>
    intro d k dp f hk hl hdp hC
    refine key 0 d k dp f hk hl hdp hC (fun h2 => ?_)
    have := (hg.2.2.2.2 k h2 hk).1
    omega
  | succ m ih =>
    intro d k dp f hk hl hdp hC
    exact key (m + 1) d k dp f hk hl hdp hC (fun _ => ⟨m, rfl, ih⟩)
theorem c5 (H : kD K b) (hR : cGr G b nv g) (hg : gW nv g) (d nf : Nat) (rt : Nat → Nat) (hnf : G.2.2.2.2 b 9 = .int (Int32.ofNat nf)) (h12 : nf ≤ 12) (hrt : ∀ f, f < nf → G.1 (b + 7) f = Int32.ofNat (rt f) ∧ rt f < gN g) : mg_m K (d + nv + 2) 5 [.ref b] G (fun o x G' => o = .inl none ∧ x = 0 ∧ ∃ f', G' = gM G (b + 6) f' ∧ ∀ y, y < gN g → ∀ r, r < 32 → a_bt (f' y) r = (decide (r < nf) && g_rc g nv (rt r) y)) := by
  have h9 := hg.2.1
  have h8 := hg.2.2.1
  have hb : b + 10 < 1000000 := H.2.2.2.2.2.2.2.2.2.2
  have s6 : K.2[b + 6]? = some (.inl (0, 628)) := H.2.2.2.2.2.1
  refine mg_me [2] 20 my_5 ms_5 (Nat.le_of_ble_eq_true rfl) ?_
  refine mg_loop (gN g) (fun k L G' => L = [some (.ref b), some (.int (Int32.ofNat k))] ∧ ∃ f', G' = gM G (b + 6) f' ∧ ∀ y, y < k → f' y = 0) ?_ ?_ _ _ ⟨rfl, G.1 (b + 6), by show G = (mg_u G.1 (b + 6) (G.1 (b + 6)), G.2); rw [mg_u_id], fun y h => absurd h (Nat.not_lt_zero y)⟩
  · rintro k L G' hk ⟨rfl, f', rfl, hf'⟩ ih
    refine mg_go [2] 60 2 ms_5 ?_
    refine ⟨_, H.no hR.1, fun h => absurd h (mg_nle hk (by omega)), fun _ => ?_⟩
    refine ⟨_, H.rb, 628, k, s6, mg_ixN (by omega), by omega, ih _ _ ⟨by rw [mg_inc k], _, gM_u G (b + 6) k f' _, fun y hy => ?_⟩⟩
    by_cases e : y = k
    · rw [e, mg_u_eq]
      rfl
    · rw [mg_u_ne _ _ e]
      exact hf' y (by omega)
  · rintro L G' ⟨rfl, f0, rfl, hf0⟩
    refine mg_go [25] 60 2 ms_5 ?_
    refine ⟨_, H.no hR.1, fun _ => ?_, fun h => absurd h (Int32.not_lt.mpr (Int32.le_refl _))⟩
    refine mg_loop nf (fun k L G' => L = [some (.ref b), some (.int (Int32.ofNat k))] ∧ ∃ f', G' = gM G (b + 6) f' ∧ ∀ y, y < gN g → ∀ r, r < 32 → a_bt (f' y) r = (decide (r < k) && g_rc g nv (rt r) y)) ?_ ?_ _ _ ⟨rfl, f0, rfl, fun y hy r hr => ?_⟩
    · rintro k L G' hk ⟨rfl, f', rfl, hf'⟩ ih
      obtain ⟨e1, e2⟩ := hrt k hk
      have hC : gCl g nv (gL g (rt k)) (fun y => a_bt (f' y) k) := fun k2 hk2 _ hM2 y hy => by
        have hM2 : a_bt (f' k2) k = true := hM2
        rw [hf' k2 hk2 k (by omega), decide_eq_false (Nat.lt_irrefl k)] at hM2
        cases hM2
      have i1 := c6 H hR hg k (by omega) nv d (rt k) 0 f' e2 (by omega) (Nat.zero_le _) hC
      have e3 : (gM G (b + 6) f').1 (b + 7) k = Int32.ofNat (rt k) := (gM_na G f' (show b + 7 ≠ b + 6 by omega) k).trans e1
      rw [← mg_bq k (by omega), ← e3] at i1
      refine mg_go [25] 60 25 ms_5 ?_
      refine ⟨_, H.fn hnf, fun h => absurd h (mg_nle hk (by omega)), fun _ => ?_⟩
      refine ⟨_, H.ro, 12, _, k, mg_Ai H.s7 (by omega), mg_ixN (by omega), by omega, Or.inr H.is, mg_m_mono i1 (by omega) ?_⟩
      rintro o x G2 ⟨rfl, rfl, f2, rfl, hf2⟩
      refine ih _ _ ⟨by rw [mg_inc k], f2, rfl, fun y hy r hr => ?_⟩
      rw [hf2 y hy r hr, hf' y hy r hr]
      by_cases e : k = r
      · subst e
        rw [decide_eq_true rfl, decide_eq_false (Nat.lt_irrefl k), decide_eq_true (Nat.lt_succ_self k)]
        simp
      · rw [decide_eq_false e, Bool.false_and, Bool.or_false, decide_eq_decide.mpr (show r < k ↔ r < k + 1 by omega)]
    · rintro L G' ⟨rfl, f', rfl, hf'⟩
      refine mg_go [] 60 25 ms_5 ?_
      exact ⟨_, H.fn hnf, fun _ => ⟨rfl, rfl, f', rfl, hf'⟩, fun h => absurd h (Int32.not_lt.mpr (Int32.le_refl _))⟩
    · rw [hf0 y hy, decide_eq_false (Nat.not_lt_zero r), Bool.false_and]
      show (0#32).getLsbD r = false
      simp
end CG
section KC
variable {scr : Nat × (Nat → Int32)} {t : List mg_S}
theorem kc_d1 : kD (mg_KC scr t) 122 := ⟨rfl, ⟨rfl, rfl, by decide, by decide⟩, rfl, rfl, rfl, rfl, rfl, rfl, rfl, rfl, by decide⟩
theorem kc_d2 : kD (mg_KC scr t) 134 := ⟨rfl, ⟨rfl, rfl, by decide, by decide⟩, rfl, rfl, rfl, rfl, rfl, rfl, rfl, rfl, by decide⟩
theorem kc_d3 : kD (mg_KC scr t) 15 := ⟨rfl, ⟨rfl, rfl, by decide, by decide⟩, rfl, rfl, rfl, rfl, rfl, rfl, rfl, rfl, by decide⟩
theorem kc_x2 : kX (mg_KC scr t) 133 134 145 := ⟨rfl, kc_d2, rfl, by decide⟩
theorem kc_x3 : kX (mg_KC scr t) 14 15 26 := ⟨rfl, kc_d3, rfl, by decide⟩
theorem kc_s1 : kS (mg_KC scr t) 30 := ⟨rfl, ⟨rfl, rfl, by decide, by decide⟩, rfl, rfl, rfl, rfl, rfl, by decide⟩
theorem kc_s2 : kS (mg_KC scr t) 4 := ⟨rfl, ⟨rfl, rfl, by decide, by decide⟩, rfl, rfl, rfl, rfl, rfl, by decide⟩
theorem kc_s3 : ∀ i, i < 10 → kS (mg_KC scr t) (42 + 8 * i) := fun i hi => by
  rcases (show i = 0 ∨ i = 1 ∨ i = 2 ∨ i = 3 ∨ i = 4 ∨ i = 5 ∨ i = 6 ∨ i = 7 ∨ i = 8 ∨ i = 9 by omega) with rfl | rfl | rfl | rfl | rfl | rfl | rfl | rfl | rfl | rfl <;> exact ⟨rfl, ⟨rfl, rfl, by decide, by decide⟩, rfl, rfl, rfl, rfl, rfl, by decide⟩
end KC
/-- the drawing that stands is A's -/
def cDA (G : mg_G) (A : a_A) : Prop := cGr G 122 (aV A) (aG A) ∧ gW (aV A) (aG A) ∧ aCl (aD A) (aV A) (aN A) ∧ (∀ f, f < aF A → G.1 129 f = Int32.ofNat (aR A f) ∧ a_nd (aN A) (aR A f) (aT A f)) ∧ (∀ j, j < aV A → G.1 130 j = Int32.ofNat (aD A j)) ∧ (∀ y, y < gN (aG A) → ∀ r, r < 32 → a_bt (G.1 128 y) r = (decide (r < aF A) && g_rc (aG A) (aV A) (aR A r) y)) ∧ G.2.2.2.2 122 9 = .int (Int32.ofNat (aF A))
def cDw (G : mg_G) (A : a_A) : Prop := G.2.2.2.2 0 7 = .int 0 ∨ (G.2.2.2.2 0 7 = .int 1 ∧ cDA G A)
/-- the states that undo takes back to, oldest first, in a ring -/
def cUn (G : mg_G) (U : List a_A) : Prop := ∃ nx, nx < 8 ∧ G.2.2.2.2 38 1 = .int (Int32.ofNat nx) ∧ G.2.2.2.2 38 2 = .int (Int32.ofNat U.length) ∧ U.length ≤ 8 ∧ (∀ i, i < 8 → G.2.2.2.1 39 i = some (42 + 8 * i)) ∧ ∀ i B, U[i]? = some B → cS G (42 + 8 * ((nx + 8 - U.length + i) % 8)) B ∧ aW B
def cSv (G : mg_G) (V : Nat → Option a_A) : Prop := (∀ s, s < 2 → G.2.2.2.1 40 s = some (42 + 8 * (8 + s))) ∧ ∀ s, s < 2 → G.1 41 s = b2 (V s).isSome ∧ ∀ B, V s = some B → cS G (42 + 8 * (8 + s)) B ∧ aW B
def a_sx (c : Nat) : Int32 := (Int32.ofNat c).toInt8.toInt32
def cIn (G : mg_G) (l : List Nat) : Prop := G.2.2.2.2 1 1 = .int (Int32.ofNat l.length) ∧ l.length ≤ 600 ∧ ∀ i c, l[i]? = some c → G.1 2 i = a_sx c ∧ c < 256
def cWr (G : mg_G) (l : List Nat) : Prop := G.2.2.2.2 146 1 = .int (Int32.ofNat l.length) ∧ l.length ≤ 1600 ∧ ∀ i c, l[i]? = some c → G.1 147 i = Int32.ofNat c ∧ c < 128
/-- the class's memory keeps S -/
def cT (G : mg_G) (S : a_S) : Prop := cS G 30 (sA S) ∧ aW (sA S) ∧ cUn G (sU S) ∧ cSv G (sV S) ∧ cIn G (sIn S) ∧ (G.2.2.2.2 3 6 = .int (sC S) ∧ G.2.2.2.2 3 7 = .int (sP S)) ∧ cWr G (sW S) ∧ cDw G (sA S)
