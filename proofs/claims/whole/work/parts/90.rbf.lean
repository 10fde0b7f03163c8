/-! REFERENCE: orders -/
theorem gM_eq (G : mg_G) (z : Nat) (f : Nat → Int32) : (gM G z f).1 z = f := mg_u_eq G.1 z f
theorem gM_ne (G : mg_G) {z : Nat} (f : Nat → Int32) {b : Nat} (h : b ≠ z) : (gM G z f).1 b = G.1 b := mg_u_ne G.1 f h
theorem gM_at (G : mg_G) (z : Nat) (f : Nat → Int32) (i : Nat) : (gM G z f).1 z i = f i := congrFun (mg_u_eq G.1 z f) i
theorem gM_na (G : mg_G) {z : Nat} (f : Nat → Int32) {b : Nat} (h : b ≠ z) (i : Nat) : (gM G z f).1 b i = G.1 b i := congrFun (mg_u_ne G.1 f h) i
theorem mg_sI_nb (G : mg_G) {a : Nat} (k : Nat) (x : Int32) {b : Nat} (h : b ≠ a) : (mg_sI G a k x).1 b = G.1 b := mg_u2_ne G.1 k x h
section RM
variable {scr : Nat × (Nat → Int32)} {t : List mg_S} {G : mg_G} {A : a_A} {S : a_S}
/-- what building by some order changes -/
def rVx (G G' : mg_G) : Prop := (∀ b, b < 155 ∨ 161 < b → G'.1 b = G.1 b ∧ G'.2.1 b = G.2.1 b) ∧ G'.2.2.1 = G.2.2.1 ∧ G'.2.2.2.1 = G.2.2.2.1 ∧ ∀ b k, ¬ (b = 148 ∧ k = 16) → G'.2.2.2.2 b k = G.2.2.2.2 b k
theorem rVx.rf (G : mg_G) : rVx G G := ⟨fun _ _ => ⟨rfl, rfl⟩, rfl, rfl, fun _ _ _ => rfl⟩
theorem rVx.tr {G G' G'' : mg_G} (h : rVx G G') (h2 : rVx G' G'') : rVx G G'' :=
  ⟨fun b hb => ⟨(h2.1 b hb).1.trans (h.1 b hb).1, (h2.1 b hb).2.trans (h.1 b hb).2⟩, h2.2.1.trans h.2.1, h2.2.2.1.trans h.2.2.1, fun b k hb => (h2.2.2.2 b k hb).trans (h.2.2.2 b k hb)⟩
theorem rVx.u {G G' : mg_G} (h : rVx G G') (f : Nat → Int32) : rVx G (mg_u G'.1 161 f, G'.2) :=
  ⟨fun b hb => ⟨(mg_u_ne _ _ (by omega)).trans (h.1 b hb).1, (h.1 b hb).2⟩, h.2⟩
theorem rVx.W {G G' : mg_G} (h2 : rW G G') : rVx G G' :=
  ⟨fun b hb => ⟨h2.1 b (by omega) (by omega) (by omega) (by omega) (by omega), h2.2.1 b (by omega)⟩, h2.2.2.1, h2.2.2.2.1, h2.2.2.2.2⟩
theorem rVx.X {G G' : mg_G} (h : rVx G G') : rX G G' :=
  ⟨fun b hb => h.1 b (by omega), h.2.1, h.2.2.1, fun b k hb => h.2.2.2 b k (fun q => hb ⟨q.1, Or.inl q.2⟩)⟩
theorem rI.gM (h : rI G A) {z : Nat} (f : Nat → Int32) (hz : 155 ≤ z ∧ z ≤ 168) : rI (gM G z f) A := ((rX.rf G).u f hz).I h
theorem r296 (d : Nat) (hI : rI G A) {v l : Nat} (hv : v < aV A) (hl : l < aV A) : mg_m (mg_KM scr t) (d + 2) 296 [.ref 148, .int (Int32.ofNat v), .int (Int32.ofNat l)] G (fun o q G' => o = .inl none ∧ q = 0 ∧ ∃ f', G' = gM G 161 f' ∧ ∀ j, j < aV A → f' j = Int32.ofNat (a_mvO A v l j)) := by
  have h8 := hI.v8
  obtain ⟨hlv, hlv2, -⟩ := a_lvl_at hI.W hv
  refine mg_me [5] 20 my_296 ms_296 (Nat.le_of_ble_eq_true rfl) ?_
  refine mg_loop (aV A) (fun k L G' => L = [some (.ref 148), some (.int (Int32.ofNat v)), some (.int (Int32.ofNat l)), some (.int (Int32.ofNat (a_pl (a_lvl A v) l k))), some (.int (Int32.ofNat k))] ∧ ∃ f', G' = gM G 161 f' ∧ ∀ p, p < a_pl (a_lvl A v) l k → p ≠ l → f' p = Int32.ofNat (a_mvO A v l p)) ?_ ?_ _ _ ⟨?_, G.1 161, by show G = (mg_u G.1 161 (G.1 161), G.2); rw [mg_u_id], fun p h => ?_⟩
  · rintro k L G' hk ⟨rfl, f', rfl, hf'⟩ ih
    have hI3 := hI.gM f' (show 155 ≤ 161 ∧ 161 ≤ 168 by decide)
    have hrd := hI3.o hk
    have hk8 := hI.W.o8 k hk
    refine mg_go [5] 60 5 ms_296 ?_
    repeat (first | refine ⟨_, mg_Fs rfl rfl, ?_⟩ | refine ⟨_, mg_Fd rfl rfl, ?_⟩ | refine ⟨Or.inl rfl, ?_⟩ | refine ⟨Or.inr ⟨_, rfl⟩, ?_⟩ | refine ⟨fun _ => ?_, fun h => absurd h (by decide)⟩ | refine ⟨fun h => absurd h (by decide), fun _ => ?_⟩)
    refine mg_cv (r178n d hI3.v) (by omega) ?_
    refine ⟨fun h => absurd h (mg_nle (by omega) (by omega)), fun _ => ?_⟩
    repeat (first | refine ⟨_, mg_Fs rfl rfl, ?_⟩ | refine ⟨_, mg_Fd rfl rfl, ?_⟩ | refine ⟨Or.inl rfl, ?_⟩ | refine ⟨Or.inr ⟨_, rfl⟩, ?_⟩ | refine ⟨fun _ => ?_, fun h => absurd h (by decide)⟩ | refine ⟨fun h => absurd h (by decide), fun _ => ?_⟩)
    refine ⟨_, _, 2 + k, mg_Ai rfl (by decide), mg_ixE (by rw [Int32.ofNat_add]; rfl) (by omega), by omega, ?_⟩
    rw [hrd]
    by_cases e : k = a_lvl A v
    · have e2 : aD A k = v := by rw [e]; exact hlv2
      rw [e2]
      refine ⟨fun h => absurd rfl h, fun _ => ih _ _ ⟨?_, f', rfl, ?_⟩⟩
      · rw [mg_inc k, show a_pl (a_lvl A v) l (k + 1) = a_pl (a_lvl A v) l k from by rw [e]; exact a_pl_v _ _]
      · rw [show a_pl (a_lvl A v) l (k + 1) = a_pl (a_lvl A v) l k from by rw [e]; exact a_pl_v _ _]
        exact hf'
    · have e2 : aD A k ≠ v := fun q => e (hI.W.2.1.2.2.1 k _ hk hlv (q.trans hlv2.symm))
      have hb := a_sg_lt (a := l) (b := a_lvl A v) hl hlv hk
      have hval : a_mvO A v l (a_sg l (a_lvl A v) k) = aD A k := by
        show aD A (a_sg (a_lvl A v) l (a_sg l (a_lvl A v) k)) = aD A k
        rw [a_sg_sg]
      refine ⟨fun _ => ⟨fun h => ?_, fun h => ?_⟩, fun h => absurd ((mg_eqN (by omega) (by omega)).mp h) e2⟩
      · have hne : a_pl (a_lvl A v) l k ≠ l := fun q => h (by rw [q])
        obtain ⟨p1, p2⟩ := a_pl_n e hne
        repeat (first | refine ⟨_, mg_Fs rfl rfl, ?_⟩ | refine ⟨_, mg_Fd rfl rfl, ?_⟩ | refine ⟨Or.inl rfl, ?_⟩ | refine ⟨Or.inr ⟨_, rfl⟩, ?_⟩ | refine ⟨fun _ => ?_, fun h => absurd h (by decide)⟩ | refine ⟨fun h => absurd h (by decide), fun _ => ?_⟩)
        refine ⟨_, _, 2 + k, mg_Ai rfl (by decide), mg_ixE (by rw [Int32.ofNat_add]; rfl) (by omega), by omega, ?_⟩
        rw [hrd]
        refine ⟨8, a_pl (a_lvl A v) l k, rfl, mg_ixN (by omega), by omega, ih _ _ ⟨by rw [p2, ← mg_inc k, ← mg_inc (a_pl _ _ _)], _, gM_u G 161 _ f' _, fun p h1 h2 => ?_⟩⟩
        rw [p2] at h1
        by_cases e3 : p = a_pl (a_lvl A v) l k
        · rw [e3, mg_u_eq, ← hval, p1]
        · rw [mg_u_ne _ _ e3]
          exact hf' p (by omega) h2
      · have heq : a_pl (a_lvl A v) l k = l := by
          by_cases q : a_pl (a_lvl A v) l k < 100
          · exact (mg_eqN (by omega) (by omega)).mp h
          · unfold a_pl at q ⊢
            repeat' split at q
            all_goals omega
        obtain ⟨p1, p2⟩ := a_pl_l e heq
        rw [heq]
        repeat (first | refine ⟨_, mg_Fs rfl rfl, ?_⟩ | refine ⟨_, mg_Fd rfl rfl, ?_⟩ | refine ⟨Or.inl rfl, ?_⟩ | refine ⟨Or.inr ⟨_, rfl⟩, ?_⟩ | refine ⟨fun _ => ?_, fun h => absurd h (by decide)⟩ | refine ⟨fun h => absurd h (by decide), fun _ => ?_⟩)
        refine ⟨_, _, 2 + k, mg_Ai rfl (by decide), mg_ixE (by rw [Int32.ofNat_add]; rfl) (by omega), by omega, ?_⟩
        rw [hrd]
        refine ⟨8, l + 1, rfl, mg_ixE (mg_inc l) (by omega), by omega, ih _ _ ⟨by rw [p2, ← mg_inc k, ← mg_inc (l + 1), ← mg_inc l], _, gM_u G 161 _ f' _, fun p h1 h2 => ?_⟩⟩
        rw [p2] at h1
        by_cases e3 : p = l + 1
        · rw [e3, mg_u_eq, ← hval, p1]
        · rw [mg_u_ne _ _ e3]
          exact hf' p (by omega) h2
  · rintro L G' ⟨rfl, f', rfl, hf'⟩
    have hI3 := hI.gM f' (show 155 ≤ 161 ∧ 161 ≤ 168 by decide)
    refine mg_go [5] 60 5 ms_296 ?_
    repeat (first | refine ⟨_, mg_Fs rfl rfl, ?_⟩ | refine ⟨_, mg_Fd rfl rfl, ?_⟩ | refine ⟨Or.inl rfl, ?_⟩ | refine ⟨Or.inr ⟨_, rfl⟩, ?_⟩ | refine ⟨fun _ => ?_, fun h => absurd h (by decide)⟩ | refine ⟨fun h => absurd h (by decide), fun _ => ?_⟩)
    refine mg_cv (r178n d hI3.v) (by omega) ?_
    refine ⟨fun _ => ?_, fun h => absurd h (Int32.not_lt.mpr (Int32.le_refl _))⟩
    repeat (first | refine ⟨_, mg_Fs rfl rfl, ?_⟩ | refine ⟨_, mg_Fd rfl rfl, ?_⟩ | refine ⟨Or.inl rfl, ?_⟩ | refine ⟨Or.inr ⟨_, rfl⟩, ?_⟩ | refine ⟨fun _ => ?_, fun h => absurd h (by decide)⟩ | refine ⟨fun h => absurd h (by decide), fun _ => ?_⟩)
    refine ⟨8, l, rfl, mg_ixN (by omega), by omega, rfl, rfl, _, gM_u G 161 l f' _, fun j hj => ?_⟩
    by_cases e : j = l
    · rw [e, mg_u_eq]
      show _ = Int32.ofNat (aD A (a_sg (a_lvl A v) l l))
      rw [show a_sg (a_lvl A v) l l = a_lvl A v from if_pos rfl, hlv2]
    · rw [mg_u_ne _ _ e]
      exact hf' j (a_pl_e hlv hl hj e) e
  · show _ = [some (Value.ref 148), some (.int (Int32.ofNat v)), some (.int (Int32.ofNat l)), some (.int (Int32.ofNat (a_pl (a_lvl A v) l 0))), some (.int (Int32.ofNat 0))]
    rw [show a_pl (a_lvl A v) l 0 = 0 from by unfold a_pl; rw [if_neg (Nat.not_lt_zero _), if_pos (Nat.zero_le _)]]
    rfl
  · rw [show a_pl (a_lvl A v) l 0 = 0 from by unfold a_pl; rw [if_neg (Nat.not_lt_zero _), if_pos (Nat.zero_le _)]] at h
    exact absurd h (Nat.not_lt_zero p)
/-- all nodes by another order -/
theorem r200A (d : Nat) (hI : rI G A) {ord : Nat → Nat} (ho : aO ord (aV A)) (h161 : ∀ j, j < aV A → G.1 161 j = Int32.ofNat (ord j)) : mg_m (mg_KM scr t) (d + aV A + 6) 200 [.ref 148] G (fun o q G' => q = 0 ∧ o = .inl (some (.int (Int32.ofNat (a_sz A ord)))) ∧ rVx G G') := by
  have h8 := hI.v8
  have eN : a_all ord (aV A) (a_tb G) (aF A) = a_all ord (aV A) (aT A) (aF A) := a_all_c fun f hf => hI.t hf
  have hl := a_sz_le hI.W ho
  refine mg_m_mono (r200 (scr := scr) (t := t) (ord := ord) d ⟨hI.1, fun j hj => ⟨h161 j hj, by have := ho.1 j hj; omega⟩, by omega⟩ hI.f hI.f12 (fun f hf v hv h => ?_) (by rw [eN]; exact Nat.le_trans hl (by decide))) (Nat.le_refl _) ?_
  · rw [hI.t hf] at h
    refine ho.2.1 v (Decidable.byContradiction fun q => ?_)
    rw [hI.W.2.2.2.1 f hf v hv (by omega)] at h
    cases h
  · rintro o q G' ⟨rfl, rfl, hA⟩
    rw [eN]
    exact ⟨rfl, rfl, rVx.W hA.1⟩
theorem r297 (d : Nat) (hI : rI G A) {v l : Nat} (hv : v < aV A) (hl : l < aV A) : mg_m (mg_KM scr t) (d + aV A + 7) 297 [.ref 148, .int (Int32.ofNat v), .int (Int32.ofNat l)] G (fun o q G' => q = 0 ∧ o = .inl (some (.int (Int32.ofNat (a_sz A (a_mvO A v l))))) ∧ rVx G G') := by
  refine mg_me [] 20 my_297 ms_297 (Nat.le_of_ble_eq_true rfl) ?_
  repeat (first | refine ⟨_, mg_Fs rfl rfl, ?_⟩ | refine ⟨_, mg_Fd rfl rfl, ?_⟩ | refine ⟨Or.inl rfl, ?_⟩ | refine ⟨Or.inr ⟨_, rfl⟩, ?_⟩ | refine ⟨fun _ => ?_, fun h => absurd h (by decide)⟩ | refine ⟨fun h => absurd h (by decide), fun _ => ?_⟩)
  refine mg_m_mono (r296 d hI hv hl) (by omega) ?_
  rintro o q G1 ⟨rfl, rfl, f', rfl, hf'⟩
  repeat (first | refine ⟨_, mg_Fs rfl rfl, ?_⟩ | refine ⟨_, mg_Fd rfl rfl, ?_⟩ | refine ⟨Or.inl rfl, ?_⟩ | refine ⟨Or.inr ⟨_, rfl⟩, ?_⟩ | refine ⟨fun _ => ?_, fun h => absurd h (by decide)⟩ | refine ⟨fun h => absurd h (by decide), fun _ => ?_⟩)
  refine mg_m_mono (r200A d (hI.gM f' (by decide)) (a_mvO_O hI.W hv hl) (fun j hj => (congrFun (mg_u_eq G.1 161 f') j).trans (hf' j hj))) (by omega) ?_
  rintro o q G1 ⟨rfl, rfl, hX⟩
  exact ⟨Or.inl rfl, rfl, rfl, ((rVx.rf G).u f').tr hX⟩
theorem r298 (d : Nat) (hI : rI G A) {v : Nat} (hv : v < aV A) : mg_m (mg_KM scr t) (d + aV A + 8) 298 [.ref 148, .int (Int32.ofNat v)] G (fun o q G' => q = 0 ∧ o = .inl (some (.int (Int32.ofNat (a_best A v)))) ∧ rVx G G') := by
  have h8 := hI.v8
  have hW := hI.W
  obtain ⟨hlv, hlv2, -⟩ := a_lvl_at hW hv
  have hsz0 := a_sz_le hW hW.2.1
  have eid : a_mvO A v (a_lvl A v) = aD A := a_mv_id _ _
  refine mg_me [19] 20 my_298 ms_298 (Nat.le_of_ble_eq_true rfl) ?_
  repeat (first | refine ⟨_, mg_Fs rfl rfl, ?_⟩ | refine ⟨_, mg_Fd rfl rfl, ?_⟩ | refine ⟨Or.inl rfl, ?_⟩ | refine ⟨Or.inr ⟨_, rfl⟩, ?_⟩ | refine ⟨fun _ => ?_, fun h => absurd h (by decide)⟩ | refine ⟨fun h => absurd h (by decide), fun _ => ?_⟩)
  refine mg_cv (r256A d hI hv) (by omega) ?_
  repeat (first | refine ⟨_, mg_Fs rfl rfl, ?_⟩ | refine ⟨_, mg_Fd rfl rfl, ?_⟩ | refine ⟨Or.inl rfl, ?_⟩ | refine ⟨Or.inr ⟨_, rfl⟩, ?_⟩ | refine ⟨fun _ => ?_, fun h => absurd h (by decide)⟩ | refine ⟨fun h => absurd h (by decide), fun _ => ?_⟩)
  refine mg_m_mono (r297 d hI hv hlv) (by omega) ?_
  rintro o q G1 ⟨rfl, rfl, hX1⟩
  rw [eid]
  repeat (first | refine ⟨_, mg_Fs rfl rfl, ?_⟩ | refine ⟨_, mg_Fd rfl rfl, ?_⟩ | refine ⟨Or.inl rfl, ?_⟩ | refine ⟨Or.inr ⟨_, rfl⟩, ?_⟩ | refine ⟨fun _ => ?_, fun h => absurd h (by decide)⟩ | refine ⟨fun h => absurd h (by decide), fun _ => ?_⟩)
  refine mg_loop (aV A) (fun k L G' => (∃ e6, L = [some (.ref 148), some (.int (Int32.ofNat v)), some (.int (Int32.ofNat (a_bs A v k).2)), some (.int (Int32.ofNat (a_bs A v k).1)), some (.int (Int32.ofNat (a_sz A (aD A)))), some (.int (Int32.ofNat k)), e6]) ∧ rVx G G') ?_ ?_ _ _ ⟨⟨none, rfl⟩, hX1⟩
  · rintro k L G' hk ⟨⟨e6, rfl⟩, hX⟩ ih
    have hI3 := hX.X.I hI
    have hb := a_bs_626 hW (v := v) k
    have hsk := a_sz_le hW (a_mvO_O hW hv hk)
    refine mg_go [19] 60 19 ms_298 ?_
    repeat (first | refine ⟨_, mg_Fs rfl rfl, ?_⟩ | refine ⟨_, mg_Fd rfl rfl, ?_⟩ | refine ⟨Or.inl rfl, ?_⟩ | refine ⟨Or.inr ⟨_, rfl⟩, ?_⟩ | refine ⟨fun _ => ?_, fun h => absurd h (by decide)⟩ | refine ⟨fun h => absurd h (by decide), fun _ => ?_⟩)
    refine mg_cv (r178n d hI3.v) (by omega) ?_
    refine ⟨fun h => absurd h (mg_nle (by omega) (by omega)), fun _ => ?_⟩
    repeat (first | refine ⟨_, mg_Fs rfl rfl, ?_⟩ | refine ⟨_, mg_Fd rfl rfl, ?_⟩ | refine ⟨Or.inl rfl, ?_⟩ | refine ⟨Or.inr ⟨_, rfl⟩, ?_⟩ | refine ⟨fun _ => ?_, fun h => absurd h (by decide)⟩ | refine ⟨fun h => absurd h (by decide), fun _ => ?_⟩)
    refine mg_m_mono (r297 d hI3 hv hk) (by omega) ?_
    rintro o q G2 ⟨rfl, rfl, hX2⟩
    repeat (first | refine ⟨_, mg_Fs rfl rfl, ?_⟩ | refine ⟨_, mg_Fd rfl rfl, ?_⟩ | refine ⟨Or.inl rfl, ?_⟩ | refine ⟨Or.inr ⟨_, rfl⟩, ?_⟩ | refine ⟨fun _ => ?_, fun h => absurd h (by decide)⟩ | refine ⟨fun h => absurd h (by decide), fun _ => ?_⟩)
    refine ⟨fun h => ?_, fun h => ?_⟩
    · have h := (mg_leN (by omega) (by omega)).mp h
      rw [← mg_inc k, show a_bs A v (k + 1) = a_bs A v k from if_neg (by omega)] at ih
      exact ih _ _ ⟨⟨_, rfl⟩, hX.tr hX2⟩
    · have h := (mg_ltN (by omega) (by omega)).mp h
      rw [← mg_inc k, show a_bs A v (k + 1) = (a_sz A (a_mvO A v k), k) from if_pos h] at ih
      exact ih _ _ ⟨⟨_, rfl⟩, hX.tr hX2⟩
  · rintro L G' ⟨⟨e6, rfl⟩, hX⟩
    have hI3 := hX.X.I hI
    have hb := a_bs_626 hW (v := v) (aV A)
    refine mg_go [19] 60 19 ms_298 ?_
    repeat (first | refine ⟨_, mg_Fs rfl rfl, ?_⟩ | refine ⟨_, mg_Fd rfl rfl, ?_⟩ | refine ⟨Or.inl rfl, ?_⟩ | refine ⟨Or.inr ⟨_, rfl⟩, ?_⟩ | refine ⟨fun _ => ?_, fun h => absurd h (by decide)⟩ | refine ⟨fun h => absurd h (by decide), fun _ => ?_⟩)
    refine mg_cv (r178n d hI3.v) (by omega) ?_
    refine ⟨fun _ => ⟨fun h => ?_, fun h => ?_⟩, fun h => absurd h (Int32.not_lt.mpr (Int32.le_refl _))⟩
    · exact ⟨Or.inl rfl, rfl, rfl, hX⟩
    · have h := (mg_eqN (by omega) (by omega)).mp h
      have e : a_best A v = a_lvl A v := (a_bs_le A v (aV A)).2 h
      repeat (first | refine ⟨_, mg_Fs rfl rfl, ?_⟩ | refine ⟨_, mg_Fd rfl rfl, ?_⟩ | refine ⟨Or.inl rfl, ?_⟩ | refine ⟨Or.inr ⟨_, rfl⟩, ?_⟩ | refine ⟨fun _ => ?_, fun h => absurd h (by decide)⟩ | refine ⟨fun h => absurd h (by decide), fun _ => ?_⟩)
      refine mg_cv (r256A d hI3 hv) (by omega) ?_
      exact ⟨Or.inl rfl, rfl, by rw [e], hX⟩
/-- block 0, what a text's reading uses, and what building changes -/
def rPz (G G' : mg_G) : Prop := (∀ b, b ≠ 149 → b < 155 ∨ 168 < b → G'.1 b = G.1 b) ∧ (∀ b, b ≠ 150 → b < 155 ∨ 168 < b → G'.2.1 b = G.2.1 b) ∧ (∀ j, 186 ≤ j → G'.1 149 j = G.1 149 j) ∧ (∀ j, 48 ≤ j → G'.2.1 150 j = G.2.1 150 j) ∧ G'.2.2.1 = G.2.2.1 ∧ G'.2.2.2.1 = G.2.2.2.1 ∧ ∀ b k, ¬ (b = 148 ∧ (k = 16 ∨ k = 28 ∨ k = 31)) → G'.2.2.2.2 b k = G.2.2.2.2 b k
theorem rPz.rf (G : mg_G) : rPz G G := ⟨fun _ _ _ => rfl, fun _ _ _ => rfl, fun _ _ => rfl, fun _ _ => rfl, rfl, rfl, fun _ _ _ => rfl⟩
theorem rPz.tr {G G' G'' : mg_G} (h : rPz G G') (h2 : rPz G' G'') : rPz G G'' :=
  ⟨fun b h3 h4 => (h2.1 b h3 h4).trans (h.1 b h3 h4), fun b h3 h4 => (h2.2.1 b h3 h4).trans (h.2.1 b h3 h4), fun b h3 => (h2.2.2.1 b h3).trans (h.2.2.1 b h3), fun b h3 => (h2.2.2.2.1 b h3).trans (h.2.2.2.1 b h3), h2.2.2.2.2.1.trans h.2.2.2.2.1, h2.2.2.2.2.2.1.trans h.2.2.2.2.2.1, fun b k h3 => (h2.2.2.2.2.2.2 b k h3).trans (h.2.2.2.2.2.2 b k h3)⟩
theorem rX.z {G G' : mg_G} (h : rX G G') : rPz G G' :=
  ⟨fun b _ h4 => (h.1 b h4).1, fun b _ h4 => (h.1 b h4).2, fun j _ => congrFun (h.1 149 (by omega)).1 j, fun j _ => congrFun (h.1 150 (by omega)).2 j, h.2.1, h.2.2.1, h.2.2.2⟩
theorem r0.z {G G' : mg_G} (h : r0 G G') : rPz G G' :=
  ⟨fun b h3 _ => h.1.1 b h3, fun b h3 _ => h.1.2.1 b h3, h.2.1, h.2.2.1, h.1.2.2.1, h.1.2.2.2.1, fun b k h3 => by
    by_cases e : b = 148 ∧ k = 3
    · rw [e.1, e.2]; exact h.2.2.2
    · exact h.1.2.2.2.2 b k e⟩
theorem rPz.F {G G' : mg_G} (h : rPz G G') : rF G G' := fun b hb => ⟨h.1 b (by omega) (by omega), h.2.1 b (by omega) (by omega), congrFun h.2.2.2.2.1 b, congrFun h.2.2.2.2.2.1 b, funext fun k => h.2.2.2.2.2.2 b k (by omega)⟩
theorem bS.z {G G' : mg_G} {c : Nat} {B : a_A} (h : bS G c B) (h0 : rPz G G') (hc : 1 ≤ c) : bS G' c B :=
  ⟨h.1.tr h.2 (fun j _ => h0.2.2.1 _ (by omega)) (fun j _ => h0.2.2.2.1 _ (by omega)), h.2⟩
theorem rT.z {G G' : mg_G} {S : a_S} (h : rT G S) (h0 : rPz G G') {A : a_A} (hA : bS G' 0 A) : rT G' (A, S.2) := by
  obtain ⟨h1, h2, h3, h4, h5, ⟨h6, h7⟩, h8⟩ := h
  obtain ⟨z1, z2, z3, z4, z5, z6, z7⟩ := id h0
  exact ⟨fun v hv => by rw [z2 154 (by decide) (by decide)]; exact h1 v hv, hA, ⟨(z7 148 3 (by decide)).trans h3.1, h3.2.1, fun i B hi => (h3.2.2 i B hi).z h0 (by omega)⟩, fun s hs => ⟨by rw [z1 151 (by decide) (by decide)]; exact (h4 s hs).1, fun B hB => ((h4 s hs).2 B hB).z h0 (by omega)⟩, ⟨(z7 148 5 (by decide)).trans h5.1, h5.2.1, fun i c hi => by rw [z1 152 (by decide) (by decide)]; exact h5.2.2 i c hi⟩, ⟨(z7 148 6 (by decide)).trans h6, (z7 148 7 (by decide)).trans h7⟩, ⟨(z7 148 9 (by decide)).trans h8.1, h8.2.1, fun i c hi => by rw [z1 153 (by decide) (by decide)]; exact h8.2.2 i c hi⟩⟩
/-- a step on block 0: its state becomes A' -/
def rST (G : mg_G) (A' : a_A) : mg_Q := fun o q G' => o = .inl none ∧ q = 0 ∧ rI G' A' ∧ rPz G G' ∧ G'.1 167 = G.1 167
theorem rI.b {G : mg_G} {A : a_A} (h : rI G A) : bS G 0 A := ⟨h.2.1, h.2.2⟩
theorem setD_b {G G' : mg_G} {A : a_A} {ord : Nat → Nat} (hI : rI G A) (ho : aO ord (aV A)) (hX : ∀ j, ¬ (2 ≤ j ∧ j < 2 + aV A) → G'.1 149 j = G.1 149 j) (h2 : G'.2.1 150 = G.2.1 150) (hm : G'.2.1 154 = G.2.1 154) (hD : ∀ j, j < aV A → G'.1 149 (2 + j) = Int32.ofNat (ord j)) : rI G' (setD A ord) := by
  have h8 := hI.v8
  refine ⟨fun v hv => by rw [hm]; exact hI.1 v hv, bA0 ?_ ?_ hD ?_ ?_ ?_ ?_ ?_, setD_W hI.W ho⟩
  · rw [hX 0 (by omega)]; exact hI.v
  · rw [hX 1 (by omega)]; exact hI.f
  · intro j hj; rw [hX _ (by omega)]; exact hI.c hj
  · intro j hj; rw [hX _ (by omega)]; exact hI.p hj
  · intro j hj; exact ⟨by rw [hX _ (by omega)]; exact (hI.vn hj).1, fun l c hl => by rw [hX _ (by omega)]; exact (hI.vn hj).2 l c hl⟩
  · intro j hj; exact ⟨by rw [hX _ (by omega)]; exact (hI.fn hj).1, fun l c hl => by rw [hX _ (by omega)]; exact (hI.fn hj).2 l c hl⟩
  · intro j hj
    have := hI.t hj
    unfold a_tb at this ⊢
    rw [h2]
    exact this
theorem r299 (d : Nat) (hI : rI G A) {v l : Nat} (hv : v < aV A) (hl : l < aV A) : mg_m (mg_KM scr t) (d + 3) 299 [.ref 148, .int (Int32.ofNat v), .int (Int32.ofNat l)] G (rST G (a_shf A v l)) := by
  have h8 := hI.v8
  refine mg_me [8] 20 my_299 ms_299 (Nat.le_of_ble_eq_true rfl) ?_
  repeat (first | refine ⟨_, mg_Fs rfl rfl, ?_⟩ | refine ⟨_, mg_Fd rfl rfl, ?_⟩ | refine ⟨Or.inl rfl, ?_⟩ | refine ⟨Or.inr ⟨_, rfl⟩, ?_⟩ | refine ⟨fun _ => ?_, fun h => absurd h (by decide)⟩ | refine ⟨fun h => absurd h (by decide), fun _ => ?_⟩)
  refine mg_m_mono (r296 d hI hv hl) (by omega) ?_
  rintro o q G1 ⟨rfl, rfl, f', rfl, hf'⟩
  repeat (first | refine ⟨_, mg_Fs rfl rfl, ?_⟩ | refine ⟨_, mg_Fd rfl rfl, ?_⟩ | refine ⟨Or.inl rfl, ?_⟩ | refine ⟨Or.inr ⟨_, rfl⟩, ?_⟩ | refine ⟨fun _ => ?_, fun h => absurd h (by decide)⟩ | refine ⟨fun h => absurd h (by decide), fun _ => ?_⟩)
  refine mg_loop (aV A) (fun k L G' => L = [some (.ref 148), some (.int (Int32.ofNat v)), some (.int (Int32.ofNat l)), some (.int (Int32.ofNat k))] ∧ G' = gM (gM G 161 f') 149 (fun j => if 2 ≤ j ∧ j < 2 + k then f' (j - 2) else G.1 149 j)) ?_ ?_ _ _ ⟨rfl, ?_⟩
  · rintro k L G' hk ⟨rfl, rfl⟩ ih
    have hv0 : (gM (gM G 161 f') 149 (fun j => if 2 ≤ j ∧ j < 2 + k then f' (j - 2) else G.1 149 j)).1 149 0 = Int32.ofNat (aV A) := (congrFun (mg_u_eq (gM G 161 f').1 149 (fun j => if 2 ≤ j ∧ j < 2 + k then f' (j - 2) else G.1 149 j)) 0).trans ((if_neg (show ¬ (2 ≤ 0 ∧ 0 < 2 + k) by omega)).trans hI.v)
    refine mg_go [8] 60 8 ms_299 ?_
    repeat (first | refine ⟨_, mg_Fs rfl rfl, ?_⟩ | refine ⟨_, mg_Fd rfl rfl, ?_⟩ | refine ⟨Or.inl rfl, ?_⟩ | refine ⟨Or.inr ⟨_, rfl⟩, ?_⟩ | refine ⟨fun _ => ?_, fun h => absurd h (by decide)⟩ | refine ⟨fun h => absurd h (by decide), fun _ => ?_⟩)
    refine mg_cv (r178n d hv0) (by omega) ?_
    refine ⟨fun h => absurd h (mg_nle (by omega) (by omega)), fun _ => ?_⟩
    repeat (first | refine ⟨_, mg_Fs rfl rfl, ?_⟩ | refine ⟨_, mg_Fd rfl rfl, ?_⟩ | refine ⟨Or.inl rfl, ?_⟩ | refine ⟨Or.inr ⟨_, rfl⟩, ?_⟩ | refine ⟨fun _ => ?_, fun h => absurd h (by decide)⟩ | refine ⟨fun h => absurd h (by decide), fun _ => ?_⟩)
    refine ⟨_, _, k, mg_Ai rfl (by decide), mg_ixN (by omega), by omega, ?_⟩
    refine ⟨2232, 2 + k, rfl, mg_ixE (by rw [Int32.ofNat_add]; rfl) (by omega), by omega, ih _ _ ⟨by rw [mg_inc k], ?_⟩⟩
    have e161 : (gM (gM G 161 f') 149 (fun j => if 2 ≤ j ∧ j < 2 + k then f' (j - 2) else G.1 149 j)).1 161 k = f' k := (gM_na (gM G 161 f') _ (show (161 : Nat) ≠ 149 by decide) k).trans (gM_at G 161 f' k)
    rw [e161]
    refine (gM_u (gM G 161 f') 149 (2 + k) _ _).trans (congrArg (gM (gM G 161 f') 149) ?_)
    funext j
    by_cases e : j = 2 + k
    · subst e
      rw [mg_u_eq, if_pos (by omega), show 2 + k - 2 = k by omega]
    · rw [mg_u_ne _ _ e]
      by_cases h : 2 ≤ j ∧ j < 2 + k
      · rw [if_pos h, if_pos (by omega)]
      · rw [if_neg h, if_neg (by omega)]
  · rintro L G' ⟨rfl, rfl⟩
    have hv0 : (gM (gM G 161 f') 149 (fun j => if 2 ≤ j ∧ j < 2 + aV A then f' (j - 2) else G.1 149 j)).1 149 0 = Int32.ofNat (aV A) := (congrFun (mg_u_eq (gM G 161 f').1 149 (fun j => if 2 ≤ j ∧ j < 2 + aV A then f' (j - 2) else G.1 149 j)) 0).trans ((if_neg (show ¬ (2 ≤ 0 ∧ 0 < 2 + aV A) by omega)).trans hI.v)
    refine mg_go [8] 60 8 ms_299 ?_
    repeat (first | refine ⟨_, mg_Fs rfl rfl, ?_⟩ | refine ⟨_, mg_Fd rfl rfl, ?_⟩ | refine ⟨Or.inl rfl, ?_⟩ | refine ⟨Or.inr ⟨_, rfl⟩, ?_⟩ | refine ⟨fun _ => ?_, fun h => absurd h (by decide)⟩ | refine ⟨fun h => absurd h (by decide), fun _ => ?_⟩)
    refine mg_cv (r178n d hv0) (by omega) ?_
    refine ⟨fun _ => ⟨rfl, rfl, ?_, ?_, (gM_ne (gM G 161 f') _ (show (167 : Nat) ≠ 149 by decide)).trans (gM_ne G f' (show (167 : Nat) ≠ 161 by decide))⟩, fun h => absurd h (Int32.not_lt.mpr (Int32.le_refl _))⟩
    · refine setD_b hI (a_mvO_O hI.W hv hl) (fun j hj => ?_) rfl rfl (fun j hj => ?_)
      · exact (congrFun (mg_u_eq (gM G 161 f').1 149 _) j).trans (if_neg hj)
      · refine (congrFun (mg_u_eq (gM G 161 f').1 149 _) (2 + j)).trans ((if_pos (by omega)).trans ?_)
        rw [show 2 + j - 2 = j by omega]
        exact hf' j hj
    · refine ((rX.rf G).u f' (by decide)).z.tr (r0.u (gM G 161 f') (fun j hj => ?_)).z
      rw [if_neg (by omega)]
      exact (congrFun (mg_u_ne G.1 f' (show (149 : Nat) ≠ 161 by decide)) j).symm
  · show gM G 161 f' = gM (gM G 161 f') 149 _
    have : (fun j => if 2 ≤ j ∧ j < 2 + 0 then f' (j - 2) else G.1 149 j) = (gM G 161 f').1 149 := by
      funext j
      rw [if_neg (by omega)]
      exact (congrFun (mg_u_ne G.1 f' (show (149 : Nat) ≠ 161 by decide)) j).symm
    rw [this]
    show gM G 161 f' = (mg_u (gM G 161 f').1 149 ((gM G 161 f').1 149), (gM G 161 f').2)
    rw [mg_u_id]
end RM
