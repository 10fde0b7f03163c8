/-- up: things from b to below a move up by one -/
def a_up {α : Type} (f : Nat → α) (m a : Nat) : Nat → α := fun i => if m < i ∧ i ≤ a then f (i - 1) else f i
theorem a_up_0 {α : Type} (f : Nat → α) (a : Nat) : a_up f a a = f := by
  funext i
  unfold a_up
  rw [if_neg (by omega)]
theorem a_up_s {α : Type} (f : Nat → α) {m a : Nat} (h : m + 1 ≤ a) : mg_u (a_up f (m + 1) a) (m + 1) (f m) = a_up f m a := by
  funext i
  by_cases e : i = m + 1
  · subst e
    rw [mg_u_eq]
    unfold a_up
    rw [if_pos (by omega)]
    rfl
  · rw [mg_u_ne _ _ e]
    unfold a_up
    by_cases h2 : m + 1 < i ∧ i ≤ a
    · rw [if_pos h2, if_pos (by omega)]
    · rw [if_neg h2, if_neg (by omega)]
theorem a_mv_arr {f : Nat → Int32} {ord : Nat → Nat} {nv a b : Nat} (hf : ∀ j, j < nv → f j = Int32.ofNat (ord j)) (ha : a < nv) (hb : b < nv) : ∀ j, j < nv → mg_u (a_up (a_dn f a (a + (b - a)) 1) (a - (a - b)) a) b (f a) j = Int32.ofNat (a_mv ord a b j) := fun j hj => by
  show _ = Int32.ofNat (ord (a_sg a b j))
  rw [← hf _ (a_sg_lt ha hb hj)]
  by_cases e : j = b
  · subst e
    rw [mg_u_eq, show a_sg a j j = a from if_pos rfl]
  · rw [mg_u_ne _ _ e]
    unfold a_sg a_up a_dn
    rw [if_neg e]
    by_cases h1 : a ≤ j ∧ j < b
    · rw [if_pos h1, if_neg (by omega), if_pos (by omega)]
    · rw [if_neg h1]
      by_cases h2 : b < j ∧ j ≤ a
      · rw [if_pos h2, if_pos (by omega), if_neg (by omega)]
      · rw [if_neg h2, if_neg (by omega), if_neg (by omega)]
section CG
variable {K : mg_K} {G : mg_G} {A : a_A} {s g z x : Nat}
theorem c173 (d : Nat) {n : Nat} (hK : K.2[z]? = some (.inl (0, n))) (hz : z < 1000000) {ord : Nat → Nat} {nv a b : Nat} (hn : nv ≤ n) (h8 : n ≤ 100) (hf : ∀ j, j < nv → G.1 z j = Int32.ofNat (ord j)) (ha : a < nv) (hb : b < nv) : mg_m K (d + 1) 173 [.ref z, .int (Int32.ofNat a), .int (Int32.ofNat b)] G (fun o q G' => o = .inl none ∧ q = 0 ∧ ∃ f', G' = gM G z f' ∧ ∀ j, j < nv → f' j = Int32.ofNat (a_mv ord a b j)) := by
  have hAz : ∀ f : Nat → Int32, mg_A K (gM G z f) z 0 n (.inl f) := fun f => by
    have := mg_Ai (K := K) (G := gM G z f) hK hz
    rwa [show (gM G z f).1 z = f from mg_u_eq _ _ _] at this
  refine mg_me [7] 60 my_173 ms_173 (Nat.le_of_ble_eq_true rfl) ?_
  refine ⟨_, _, a, mg_Ai hK hz, mg_ixN (by omega), by omega, ?_⟩
  refine mg_loop (b - a) (fun k L G' => L = [some (.ref z), some (.int (Int32.ofNat a)), some (.int (Int32.ofNat b)), some (.int (G.1 z a)), some (.int (Int32.ofNat (a + k)))] ∧ G' = gM G z (a_dn (G.1 z) a (a + k) 1)) ?_ ?_ _ _ ⟨rfl, by rw [Nat.add_zero, a_dn_0]; show G = (mg_u G.1 z (G.1 z), G.2); rw [mg_u_id]⟩
  · rintro k L G' hk ⟨rfl, rfl⟩ ih
    refine mg_go [7] 60 7 ms_173 ?_
    refine ⟨fun h => absurd h (mg_nle (by omega) (by omega)), fun _ => ?_⟩
    refine ⟨_, _, a + k + 1, hAz _, mg_ixE (mg_inc _) (by omega), by omega, ?_⟩
    rw [a_dn_at _ (by decide)]
    refine ⟨n, a + k, hK, mg_ixN (by omega), by omega, ih _ _ ⟨by rw [mg_inc]; rfl, ?_⟩⟩
    rw [gM_u, a_dn_s _ (by omega)]
    rfl
  · rintro L G' ⟨rfl, rfl⟩
    refine mg_go [32] 60 7 ms_173 ?_
    refine ⟨fun _ => ?_, fun h => absurd h (mg_nlt (by omega) (by omega))⟩
    refine mg_loop (a - b) (fun k L G' => L = [some (.ref z), some (.int (Int32.ofNat a)), some (.int (Int32.ofNat b)), some (.int (G.1 z a)), some (.int (Int32.ofNat (a - k)))] ∧ G' = gM G z (a_up (a_dn (G.1 z) a (a + (b - a)) 1) (a - k) a)) ?_ ?_ _ _ ⟨rfl, by rw [Nat.sub_zero, a_up_0]⟩
    · rintro k L G' hk ⟨rfl, rfl⟩ ih
      obtain ⟨m, hm⟩ : ∃ m, a - k = m + 1 := ⟨a - k - 1, by omega⟩
      have hm2 : a - (k + 1) = m := by omega
      rw [hm2] at ih
      rw [hm]
      refine mg_go [32] 60 32 ms_173 ?_
      refine ⟨fun h => absurd h (mg_nle (by omega) (by omega)), fun _ => ?_⟩
      refine ⟨_, _, m, hAz _, mg_ixE (mg_dec m) (by omega), by omega, ?_⟩
      rw [show a_up (a_dn (G.1 z) a (a + (b - a)) 1) (m + 1) a m = a_dn (G.1 z) a (a + (b - a)) 1 m from by unfold a_up; rw [if_neg (by omega)]]
      refine ⟨n, m + 1, hK, mg_ixN (by omega), by omega, ih _ _ ⟨by rw [mg_decm], ?_⟩⟩
      rw [gM_u, a_up_s _ (by omega)]
    · rintro L G' ⟨rfl, rfl⟩
      refine mg_go [] 60 32 ms_173 ?_
      refine ⟨fun _ => ?_, fun h => absurd h (mg_nlt (by omega) (by omega))⟩
      refine ⟨n, b, hK, mg_ixN (by omega), by omega, rfl, rfl, _, gM_u _ _ _ _ _, a_mv_arr hf ha hb⟩
theorem c1 (d : Nat) (H : kD K g) (Hs : kS K s) (hg : s + 7 < g ∨ g + 10 < s) (hS : cS G s A) (hW : aW A) : mg_m K (d + 1) 1 [.ref g, .ref s] G (fun o q G' => o = .inl none ∧ q = 0 ∧ cO G' g (aD A) (aV A) ∧ mg_fr (fun a => a = g ∨ a = g + 8) G G') := by
  have h8 : aV A ≤ 8 := hW.2.1.2.2.2
  have z0 : mg_ix (Int32.ofInt 0) 0 := ⟨by decide, by decide⟩
  have z8 : mg_ix (Int8.ofInt 8).toInt32 8 := ⟨by decide, by decide⟩
  have s8 : K.2[g + 8]? = some (.inl (0, 8)) := H.2.2.2.2.2.2.2.1
  refine mg_me [] 60 my_1 ms_1 (Nat.le_of_ble_eq_true rfl) ?_
  refine ⟨_, Hs.od, _, H.od, by decide, 8, 0, 0, 8, 8, z8, z0, z0, by decide, by decide, Or.inl ⟨Hs.s5, s8, ?_⟩⟩
  refine ⟨_, Hs.nv hS.2.2.1, rfl, _, H.1, rfl, rfl, rfl, ⟨mg_sF_at _ _ _ _, fun j hj => ?_⟩, ?_⟩
  · exact ((congrFun (mg_u_eq _ _ _) j).trans (a_cpy0 _ _ (by omega))).trans (hS.2.2.2.2.2.2.1 j hj)
  · exact (mg_fr.u1 _ _ (Or.inr rfl)).tr (mg_fr.sF _ _ _ (Or.inl rfl))
theorem c70A (d : Nat) (Hs : kS K s) (hS : cS G s A) (hW : aW A) {v : Nat} (hv : v < aV A) : mg_m K (d + 1) 70 [.ref s, .int (Int32.ofNat v)] G (mg_v (.int (Int32.ofNat (a_lvl A v))) G) := by
  have h8 : aV A ≤ 8 := hW.2.1.2.2.2
  obtain ⟨h1, h2, h3⟩ := a_lvl_at hW hv
  refine c70 d Hs (by omega) hS.2.2.1 _ h1 ?_ (fun j hj => ?_)
  · rw [hS.2.2.2.2.2.2.1 _ h1, h2]
  · rw [hS.2.2.2.2.2.2.1 _ (by omega)]
    exact fun q => h3 j hj ((mg_eqN (by have := hW.2.1.1 j (by omega); omega) (by omega)).mp q)
/-- a drawing of a state's functions by some order -/
theorem c2S (d : Nat) (H : kD K g) (Hs : kS K s) (hg : s + 7 < g ∨ g + 10 < s) (hS : cS G s A) (hW : aW A) {ord : Nat → Nat} (ho : aO ord (aV A)) (hO : cO G g ord (aV A)) : mg_m K (d + aV A + 5) 2 [.ref g, .ref (s + 1), .int (Int32.ofNat 0), .int (Int32.ofNat (aF A))] G (fun o k G' => k = 0 ∧ o = .inl (some (.int (Int32.ofNat (a_sz A ord)))) ∧ cDr G' g ord (aV A) (aF A) (a_wds (aV A)) (aT A) (aF A) ∧ mg_fr (kP g) G G' ∧ cH G' g ord (aV A) (a_wds (aV A))) :=
  c2 d H (tb := aT A) ⟨Hs.T, by unfold kP; omega, by unfold kP; omega, ho, rfl, hW.2.2.1, by have := hW.2.2.1; omega, fun f hf => by rw [Nat.zero_add]; exact hS.2.2.2.1 f hf, hW.2.2.2.1⟩ hO hS.1
def kG (g a : Nat) : Prop := g ≤ a ∧ a ≤ g + 10
/-- sifter x: the diagram g, the counts z -/
def kX (K : mg_K) (x g z : Nat) : Prop := K.2[x]? = some (.inr (4, [some (.ref g), some (.ref z)])) ∧ kD K g ∧ K.2[z]? = some (.inl (0, 8)) ∧ z < 1000000
theorem kX.dg (h : kX K x g z) : mg_F K G x 4 0 (.ref g) := mg_Fs h.1 rfl
theorem kX.ts (h : kX K x g z) : mg_F K G x 4 1 (.ref z) := mg_Fs h.1 rfl
theorem kX.is (h : kX K x g z) {r : List Value} : mg_isr K 4 (.ref x :: r) := ⟨_, h.1⟩
theorem c60 (d : Nat) (H : kX K x g z) (Hs : kS K s) (hg : s + 7 < g ∨ g + 10 < s) (hS : cS G s A) (hW : aW A) {v : Nat} (hv : v < aV A) : mg_m K (d + aV A + 6) 60 [.ref x, .ref s, .int (Int32.ofNat v)] G (fun o q G' => q = 0 ∧ o = .inl (some (.int (Int32.ofNat (a_best A v)))) ∧ mg_fr (kG g) G G') := by
  have h8 : aV A ≤ 8 := hW.2.1.2.2.2
  have hlv := (a_lvl_at hW hv).1
  have s8 : K.2[g + 8]? = some (.inl (0, 8)) := H.2.1.2.2.2.2.2.2.2.1
  have hg9 : g + 10 < 1000000 := H.2.1.2.2.2.2.2.2.2.2.2.2
  have apart : ∀ a, kQ s a → ¬ kG g a := fun a ha hb => by unfold kQ at ha; unfold kG at hb; omega
  refine mg_me [38] 60 my_60 ms_60 (Nat.le_of_ble_eq_true rfl) ?_
  refine ⟨Or.inr Hs.is, mg_cv (c70A d Hs hS hW hv) (by omega) ?_⟩
  refine ⟨_, H.dg, Or.inr H.2.1.is, mg_m_mono (c1 d H.2.1 Hs hg hS hW) (by omega) ?_⟩
  rintro o q G1 ⟨rfl, rfl, hO, hF1⟩
  have hF1' : mg_fr (kG g) G G1 := hF1.mono (fun a ha => by unfold kG; omega)
  have hS1 := hS.fr hF1' apart
  refine ⟨_, H.dg, _, Hs.t, _, Hs.nf hS1.2.1, Or.inr H.2.1.is, mg_m_mono (c2S d H.2.1 Hs hg hS1 hW hW.2.1 hO) (by omega) ?_⟩
  rintro o q G2 ⟨rfl, rfl, -, hF2, -⟩
  have hF2' : mg_fr (kG g) G G2 := hF1'.tr (hF2.mono (fun a ha => by unfold kP at ha; unfold kG; omega))
  refine mg_loop (aV A) (fun k L G' => (∃ e7, L = [some (.ref x), some (.ref s), some (.int (Int32.ofNat v)), some (.int (Int32.ofNat (a_lvl A v))), some (.int (Int32.ofNat (a_bs A v k).1)), some (.int (Int32.ofNat (a_bs A v k).2)), some (.int (Int32.ofNat k)), e7]) ∧ mg_fr (kG g) G G') ?_ ?_ _ _ ⟨⟨none, rfl⟩, hF2'⟩
  · rintro k L G' hk ⟨⟨e7, rfl⟩, hF⟩ ih
    have hS3 := hS.fr hF apart
    have hb := a_bs_626 hW (v := v) k
    have hsk := a_sz_le hW (a_mvO_O hW hv hk)
    refine mg_go [38] 60 38 ms_60 ?_
    refine ⟨_, Hs.nv hS3.2.2.1, fun h => absurd h (mg_nle (by omega) (by omega)), fun _ => ?_⟩
    refine ⟨_, H.dg, Or.inr H.2.1.is, mg_m_mono (c1 d H.2.1 Hs hg hS3 hW) (by omega) ?_⟩
    rintro o q G3 ⟨rfl, rfl, hO3, hF3⟩
    have hF3' : mg_fr (kG g) G G3 := hF.tr (hF3.mono (fun a ha => by unfold kG; omega))
    refine ⟨_, H.dg, _, H.2.1.od, Or.inl rfl, mg_m_mono (c173 d s8 (by omega) h8 (by decide) hO3.2 hlv hk) (by omega) ?_⟩
    rintro o q G4 ⟨rfl, rfl, f', rfl, hf'⟩
    have hF4 : mg_fr (kG g) G (gM G3 (g + 8) f') := hF3'.tr (mg_fr.u1 _ _ (by unfold kG; omega))
    have hS4 := hS.fr hF4 apart
    have hO4 : cO (gM G3 (g + 8) f') g (a_mvO A v k) (aV A) := ⟨hO3.1, fun j hj => (gM_at _ _ _ j).trans (hf' j hj)⟩
    refine ⟨_, H.dg, _, Hs.t, _, Hs.nf hS4.2.1, Or.inr H.2.1.is, mg_m_mono (c2S d H.2.1 Hs hg hS4 hW (a_mvO_O hW hv hk) hO4) (by omega) ?_⟩
    rintro o q G5 ⟨rfl, rfl, -, hF5, -⟩
    have hF5' : mg_fr (kG g) G G5 := hF4.tr (hF5.mono (fun a ha => by unfold kP at ha; unfold kG; omega))
    refine ⟨fun h => ?_, fun h => ?_⟩
    · have h := (mg_leN (by omega) (by omega)).mp h
      rw [← mg_inc k, show a_bs A v (k + 1) = a_bs A v k from if_neg (by omega)] at ih
      exact ih _ _ ⟨⟨_, rfl⟩, hF5'⟩
    · have h := (mg_ltN (by omega) (by omega)).mp h
      rw [← mg_inc k, show a_bs A v (k + 1) = (a_sz A (a_mvO A v k), k) from if_pos h] at ih
      exact ih _ _ ⟨⟨_, rfl⟩, hF5'⟩
  · rintro L G' ⟨⟨e7, rfl⟩, hF⟩
    have hS3 := hS.fr hF apart
    refine mg_go [] 60 38 ms_60 ?_
    exact ⟨_, Hs.nv hS3.2.2.1, fun _ => ⟨Or.inl rfl, rfl, rfl, hF⟩, fun h => absurd h (Int32.not_lt.mpr (Int32.le_refl _))⟩
theorem c62 (d : Nat) (H : kX K x g z) {nv : Nat} (h1 : 1 ≤ nv) (h8 : nv ≤ 8) : mg_m K (d + 1) 62 [.ref x, .int (Int32.ofNat nv)] G (mg_v (.int (Int32.ofNat (a_mx (G.1 z) nv))) G) := by
  refine mg_me [4] 60 my_62 ms_62 (Nat.le_of_ble_eq_true rfl) ?_
  refine mg_loop (nv - 1) (fun k L G' => L = [some (.ref x), some (.int (Int32.ofNat nv)), some (.int (Int32.ofNat (a_mx (G.1 z) (k + 1)))), some (.int (Int32.ofNat (k + 1)))] ∧ G' = G) ?_ ?_ _ _ ⟨?_, rfl⟩
  · rintro k L G' hk ⟨rfl, rfl⟩ ih
    have hm := a_mx_lt (G'.1 z) (k + 1) (by omega)
    refine mg_go [4] 60 4 ms_62 ?_
    refine ⟨fun h => absurd h (mg_nle (by omega) (by omega)), fun _ => ?_⟩
    refine ⟨_, H.ts, _, _, k + 1, mg_Ai H.2.2.1 H.2.2.2, mg_ixN (by omega), by omega, ?_⟩
    refine ⟨_, H.ts, _, _, a_mx (G'.1 z) (k + 1), mg_Ai H.2.2.1 H.2.2.2, mg_ixN (by omega), by omega, ?_⟩
    refine ⟨fun h => ?_, fun h => ?_⟩
    · refine ih _ _ ⟨?_, rfl⟩
      rw [mg_inc, show a_mx (G'.1 z) (k + 1 + 1) = a_mx (G'.1 z) (k + 1) from if_neg (Int32.not_lt.mpr h)]
    · refine ih _ _ ⟨?_, rfl⟩
      rw [mg_inc, show a_mx (G'.1 z) (k + 1 + 1) = k + 1 from if_pos h]
  · rintro L G' ⟨rfl, rfl⟩
    rw [show nv - 1 + 1 = nv by omega]
    refine mg_go [] 60 4 ms_62 ?_
    exact ⟨fun _ => ⟨Or.inl rfl, rfl, rfl, rfl⟩, fun h => absurd h (Int32.not_lt.mpr (Int32.le_refl _))⟩
  · show _ = [some (Value.ref x), some (.int (Int32.ofNat nv)), some (.int (Int32.ofNat (a_mx (G.1 z) 1))), some (.int (Int32.ofNat 1))]
    rw [show a_mx (G.1 z) 1 = 0 from by unfold a_mx; split <;> rfl]
    rfl
theorem cS_setD (hS : cS G s A) {ord : Nat → Nat} {f' : Nat → Int32} (hf : ∀ j, j < aV A → f' j = Int32.ofNat (ord j)) : cS (gM G (s + 5) f') s (setD A ord) := by
  obtain ⟨h1, h2, h3, h4, h5, h6, h7, h8, h9⟩ := hS
  exact ⟨h1, h2, h3, h4, h5, h6, fun j hj => (gM_at G (s + 5) f' j).trans (hf j hj), fun j hj => (gM_na G f' (show s + 6 ≠ s + 5 by omega) j).trans (h8 j hj), fun j hj => (gM_na G f' (show s + 7 ≠ s + 5 by omega) j).trans (h9 j hj)⟩
theorem a_ts_lv {A : a_A} (hW : aW A) (hg : gW (aV A) (aG A)) {v : Nat} (hv : v < aV A) : a_sum (fun i => if Int32.ofNat (gL (aG A) (i + 2)) = Int32.ofNat (a_lvl A v) then 1 else 0) (gN (aG A) - 2) = a_ts A v := by
  obtain ⟨h1, h2, h3⟩ := a_lvl_at hW hv
  have h8 : aV A ≤ 8 := hW.2.1.2.2.2
  refine a_sum_c fun i hi => ?_
  have hl := (hg.2.2.2.2 (i + 2) (by omega) (by omega)).1
  by_cases e : gL (aG A) (i + 2) = a_lvl A v
  · rw [if_pos (by rw [e]), if_pos (by rw [e]; exact h2)]
  · rw [if_neg (fun q => e ((mg_eqN (by omega) (by omega)).mp q)), if_neg (fun q => e (hW.2.1.2.2.1 _ _ hl h1 (q.trans h2.symm)))]
/-- sifting all: what is changed -/
def kY (s g z a : Nat) : Prop := a = s + 5 ∨ kG g a ∨ a = z
theorem c61 (d : Nat) (H : kX K x g z) (Hs : kS K s) (hg : s + 7 < g ∨ g + 10 < s) (hz : ¬ kQ s z ∧ ¬ kG g z) (hS : cS G s A) (hW : aW A) : mg_m K (d + aV A + 7) 61 [.ref x, .ref s] G (fun o q G' => q = 0 ∧ o = .inl none ∧ cS G' s (a_sfa A) ∧ mg_fr (kY s g z) G G') := by
  have h8 : aV A ≤ 8 := hW.2.1.2.2.2
  have h1 := hW.1
  have hg9 : g + 10 < 1000000 := H.2.1.2.2.2.2.2.2.2.2.2.2
  have apart : ∀ a, kQ s a → ¬ kG g a := fun a ha hb => by unfold kQ at ha; unfold kG at hb; omega
  have apart2 : ∀ a, kQ s a → ¬ (kG g a ∨ a = z) := fun a ha hb => hb.elim (apart a ha) (fun e => hz.1 (e ▸ ha))
  refine mg_me [27] 60 my_61 ms_61 (Nat.le_of_ble_eq_true rfl) ?_
  refine ⟨_, H.dg, Or.inr H.2.1.is, mg_m_mono (c1 d H.2.1 Hs hg hS hW) (by omega) ?_⟩
  rintro o q G1 ⟨rfl, rfl, hO, hF1⟩
  have hF1' : mg_fr (kG g) G G1 := hF1.mono (fun a ha => by unfold kG; omega)
  have hS1 := hS.fr hF1' apart
  refine ⟨_, H.dg, _, Hs.t, _, Hs.nf hS1.2.1, Or.inr H.2.1.is, mg_m_mono (c2S d H.2.1 Hs hg hS1 hW hW.2.1 hO) (by omega) ?_⟩
  rintro o q G2 ⟨rfl, rfl, hD, hF2, hH⟩
  have hF2' : mg_fr (kG g) G G2 := hF1'.tr (hF2.mono (fun a ha => by unfold kP at ha; unfold kG; omega))
  have hgr : cGr G2 g (aV A) (aG A) := hD.gr hH.2.2.1
  have hgw : gW (aV A) (aG A) := a_gr_W hW.o8 h8 (a_all_nd _ _ _ _) (a_all_nl _ _ _ _) hW.N hD.cl
  have zs : K.2[z]? = some (.inl (0, 8)) := H.2.2.1
  have zi := H.2.2.2
  have hgz : ∀ f : Nat → Int32, cGr (gM G2 z f) g (aV A) (aG A) := fun f => by
    have ne : ∀ b, kG g b → (gM G2 z f).1 b = G2.1 b := fun b hb => gM_ne G2 f (fun e => hz.2 (e ▸ hb))
    obtain ⟨g1, g2, g3, g4, g5⟩ := hgr
    exact ⟨g1, g2, fun k hk => (congrFun (ne _ (by unfold kG; omega)) k).trans (g3 k hk), fun k hk => ⟨(congrFun (ne _ (by unfold kG; omega)) k).trans (g4 k hk).1, (congrFun (ne _ (by unfold kG; omega)) k).trans (g4 k hk).2⟩, fun k hk1 hk2 => ⟨(congrFun (ne _ (by unfold kG; omega)) k).trans (g5 k hk1 hk2).1, (congrFun (ne _ (by unfold kG; omega)) k).trans (g5 k hk1 hk2).2⟩⟩
  refine mg_loop (aV A) (fun k L G' => L = [some (.ref x), some (.ref s), some (.int (Int32.ofNat k)), none] ∧ ∃ f', G' = gM G2 z f' ∧ ∀ p, p < k → f' p = a_ts A p) ?_ ?_ _ _ ⟨rfl, G2.1 z, by show G2 = (mg_u G2.1 z (G2.1 z), G2.2); rw [mg_u_id], fun p h => absurd h (Nat.not_lt_zero p)⟩
  · rintro k L G' hk ⟨rfl, f', rfl, hf'⟩ ih
    have hF3 : mg_fr (fun a => kG g a ∨ a = z) G (gM G2 z f') := (hF2'.mono (fun a ha => Or.inl ha)).tr (mg_fr.u1 _ _ (Or.inr rfl))
    have hS3 := hS.fr hF3 apart2
    have hc8 := c8 H.2.1 (hgz f') hgw (d + 1) (Int32.ofNat (a_lvl A k))
    rw [a_ts_lv hW hgw hk] at hc8
    refine mg_go [27] 60 27 ms_61 ?_
    refine ⟨_, Hs.nv hS3.2.2.1, fun h => absurd h (mg_nle (by omega) (by omega)), fun _ => ?_⟩
    refine ⟨_, H.ts, _, H.dg, Or.inr Hs.is, mg_cv (c70A d Hs hS3 hW hk) (by omega) ?_⟩
    refine ⟨Or.inr H.2.1.is, mg_cv hc8 (by omega) ?_⟩
    refine ⟨8, k, zs, mg_ixN (by omega), by omega, ih _ _ ⟨by rw [mg_inc k], _, gM_u G2 z k f' _, fun p hp => ?_⟩⟩
    by_cases e : p = k
    · rw [e, mg_u_eq]
    · rw [mg_u_ne _ _ e]
      exact hf' p (by omega)
  · rintro L G' ⟨rfl, f', rfl, hf'⟩
    have hF3 : mg_fr (kY s g z) G (gM G2 z f') := (hF2'.mono (fun a ha => Or.inr (Or.inl ha))).tr (mg_fr.u1 _ _ (Or.inr (Or.inr rfl)))
    have hF3b : mg_fr (fun a => kG g a ∨ a = z) G (gM G2 z f') := (hF2'.mono (fun a ha => Or.inl ha)).tr (mg_fr.u1 _ _ (Or.inr rfl))
    have hS3 := hS.fr hF3b apart2
    refine mg_go [61] 60 27 ms_61 ?_
    refine ⟨_, Hs.nv hS3.2.2.1, fun _ => ?_, fun h => absurd h (Int32.not_lt.mpr (Int32.le_refl _))⟩
    refine mg_loop (aV A) (fun k L G' => (∃ e3, L = [some (.ref x), some (.ref s), some (.int (Int32.ofNat k)), e3]) ∧ cS G' s (a_sfs A f' k) ∧ mg_fr (kY s g z) G G' ∧ G'.1 z = a_tst f' (aV A) k) ?_ ?_ _ _ ⟨⟨none, rfl⟩, hS3, hF3, mg_u_eq _ _ _⟩
    · rintro k L G' hk ⟨⟨e3, rfl⟩, hS4, hF4, hz4⟩ ih
      have eV := a_sfs_V A f' k
      have hW4 := a_sfs_W hW f' k
      have hv : a_sq f' (aV A) k < aV (a_sfs A f' k) := by rw [eV]; exact a_mx_lt _ _ h1
      have hm := c62 (G := G') d H h1 h8
      rw [hz4] at hm
      have hn4 : G'.2.2.2.2 s 7 = .int (Int32.ofNat (aV A)) := by rw [← eV]; exact hS4.2.2.1
      have hlt := a_mx_lt (a_tst f' (aV A) k) (aV A) h1
      refine mg_go [61] 90 61 ms_61 ?_
      refine ⟨_, Hs.nv hn4, fun h => absurd h (mg_nle (by omega) (by omega)), fun _ => ?_⟩
      refine ⟨_, Hs.nv hn4, Or.inr H.is, mg_cv hm (by omega) ?_⟩
      refine ⟨_, H.ts, 8, a_mx (a_tst f' (aV A) k) (aV A), zs, mg_ixN (by omega), by omega, ?_⟩
      have hF5 : mg_fr (kY s g z) G (mg_sI G' z (a_mx (a_tst f' (aV A) k) (aV A)) (Int32.ofInt (-1))) := hF4.tr (mg_fr.sI _ _ _ (Or.inr (Or.inr rfl)))
      have hS5 : cS (mg_sI G' z (a_mx (a_tst f' (aV A) k) (aV A)) (Int32.ofInt (-1))) s (a_sfs A f' k) := hS4.fr (mg_fr.sI (p := fun a => a = z) _ _ _ rfl) (fun a ha e => hz.1 (e ▸ ha))
      have hz5 : (mg_sI G' z (a_mx (a_tst f' (aV A) k) (aV A)) (Int32.ofInt (-1))).1 z = a_tst f' (aV A) (k + 1) := by
        show mg_u2 G'.1 z _ _ z = mg_u (a_tst f' (aV A) k) _ (-1)
        rw [mg_u2_same, hz4]
        rfl
      have k1 := c70A (d + aV A + 5) Hs hS5 hW4 hv
      refine ⟨_, Hs.od, Or.inr Hs.is, mg_cv k1 (Nat.le_refl _) ?_⟩
      refine ⟨Or.inr H.is, mg_m_mono (d' := d + aV A + 6) (c60 d H Hs hg hS5 hW4 hv) (by rw [eV]; omega) ?_⟩
      rintro o q G6 ⟨rfl, rfl, hF6⟩
      have hS6 := hS5.fr hF6 apart
      refine ⟨Or.inl rfl, mg_m_mono (c173 d Hs.s5 (by have := Hs.2.2.2.2.2.2.2; omega) (by rw [eV]; exact h8) (by decide) hS6.2.2.2.2.2.2.1 (a_lvl_at hW4 hv).1 (a_best_lt hW4 hv)) (by omega) ?_⟩
      rintro o q G7 ⟨rfl, rfl, f2, rfl, hf2⟩
      refine ih _ _ ⟨⟨_, by rw [mg_inc k]⟩, cS_setD hS6 hf2, (hF5.tr (hF6.mono (fun a ha => Or.inr (Or.inl ha)))).tr (mg_fr.u1 _ _ (Or.inl rfl)), ?_⟩
      exact (gM_ne G6 f2 (fun e => hz.1 (by unfold kQ; omega))).trans ((hF6 z hz.2).1.trans hz5)
    · rintro L G' ⟨⟨e3, rfl⟩, hS4, hF4, hz4⟩
      have hn4 : G'.2.2.2.2 s 7 = .int (Int32.ofNat (aV A)) := by rw [← a_sfs_V A f' (aV A)]; exact hS4.2.2.1
      rw [a_sfs_c hf'] at hS4
      refine mg_go [] 60 61 ms_61 ?_
      exact ⟨_, Hs.nv hn4, fun _ => ⟨rfl, rfl, hS4, hF4⟩, fun h => absurd h (Int32.not_lt.mpr (Int32.le_refl _))⟩
end CG
