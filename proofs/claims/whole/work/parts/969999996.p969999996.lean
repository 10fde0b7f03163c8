/-! REFERENCE: pairs -/
def rL9 (G : mg_G) (L : List pP) : Prop := G.2.2.2.2 148 31 = .int (Int32.ofNat L.length) ∧ ∀ i z, L[i]? = some z → G.1 165 i = Int32.ofNat z.1 ∧ G.1 166 i = Int32.ofNat z.2
def rM9 (G G' : mg_G) : Prop := (∀ b, b ≠ 165 → b ≠ 166 → G'.1 b = G.1 b) ∧ G'.2.1 = G.2.1 ∧ G'.2.2.1 = G.2.2.1 ∧ G'.2.2.2.1 = G.2.2.2.1 ∧ ∀ b k, ¬ (b = 148 ∧ k = 31) → G'.2.2.2.2 b k = G.2.2.2.2 b k
theorem rM9.rf (G : mg_G) : rM9 G G := ⟨fun _ _ _ => rfl, rfl, rfl, rfl, fun _ _ _ => rfl⟩
theorem rM9.tr {G G' G'' : mg_G} (h : rM9 G G') (h2 : rM9 G' G'') : rM9 G G'' := ⟨fun b h1 h3 => (h2.1 b h1 h3).trans (h.1 b h1 h3), h2.2.1.trans h.2.1, h2.2.2.1.trans h.2.2.1, h2.2.2.2.1.trans h.2.2.2.1, fun b k hb => (h2.2.2.2.2 b k hb).trans (h.2.2.2.2 b k hb)⟩
theorem rM9.X {G G' : mg_G} (h : rM9 G G') : rX G G' := ⟨fun b hb => ⟨h.1 b (by omega) (by omega), congrFun h.2.1 b⟩, h.2.2.1, h.2.2.2.1, fun b k hb => h.2.2.2.2 b k (by omega)⟩
theorem rM9.g {G G' : mg_G} {ord : Nat → Nat} {g : a_Gr} (h : rM9 G G') (hg : rGr G ord g) : rGr G' ord g := by
  refine ⟨(h.2.2.2.2 148 16 (by decide)).trans hg.1, fun b hb => ?_, fun k h2 hk => ?_⟩
  · rw [h.1 b (by omega) (by omega)]
    exact hg.2.1 b hb
  · rw [h.1 156 (by decide) (by decide), h.1 157 (by decide) (by decide), h.1 158 (by decide) (by decide)]
    exact hg.2.2 k h2 hk
section RM
variable {scr : Nat × (Nat → Int32)} {t : List mg_S} {G : mg_G} {A : a_A} {z : pP} {a b : Nat} {L : List pP}
def a_l8 (g : a_Gr) (k : Nat) : Nat := if k < 2 then 8 else gL g k
theorem r291 (d : Nat) (hI : rI G A) (hR : rGr G (aD A) (aG A)) (hg : gW (aV A) (aG A)) {k : Nat} (hk : k < gN (aG A)) : mg_m (mg_KM scr t) (d + 2) 291 [.ref 148, .int (Int32.ofNat k)] G (mg_v (.int (Int32.ofNat (a_l8 (aG A) k))) G) := by
  have h628 := hg.2.1
  unfold a_l8
  by_cases h2 : k < 2
  · rw [if_pos h2]
    refine mg_me [] 60 my_291 ms_291 (Nat.le_of_ble_eq_true rfl) ?_
    refine ⟨fun q => absurd q (mg_nle (b := 2) h2 (by decide)), fun _ => ?_⟩
    exact ⟨Or.inl rfl, rfl, rfl, rfl⟩
  · rw [if_neg h2]
    have hl := (hg.2.2.2.2 k (by omega) hk).1
    have hW := hI.W
    have hd : aD A (gL (aG A) k) < aV A := hW.2.1.1 _ hl
    have e := (hR.2.2 k (by omega) hk).1
    have k1 := r256A (scr := scr) (t := t) d hI hd
    rw [a_lvl_aD hW hl] at k1
    refine mg_me [] 60 my_291 ms_291 (Nat.le_of_ble_eq_true rfl) ?_
    refine ⟨fun _ => ?_, fun q => absurd q (mg_nlt (a := 2) (by omega) (by omega))⟩
    repeat (first | refine ⟨_, mg_Fs rfl rfl, ?_⟩ | refine ⟨Or.inl rfl, ?_⟩ | refine ⟨Or.inr ⟨_, rfl⟩, ?_⟩ | refine ⟨fun _ => ?_, fun h => absurd h (by decide)⟩ | refine ⟨fun h => absurd h (by decide), fun _ => ?_⟩)
    refine ⟨1000, _, k, mg_Ai rfl (by decide), mg_ixN (by omega), by omega, ?_⟩
    rw [e]
    repeat (first | refine ⟨_, mg_Fs rfl rfl, ?_⟩ | refine ⟨Or.inl rfl, ?_⟩ | refine ⟨Or.inr ⟨_, rfl⟩, ?_⟩ | refine ⟨fun _ => ?_, fun h => absurd h (by decide)⟩ | refine ⟨fun h => absurd h (by decide), fun _ => ?_⟩)
    refine mg_cv (k1) (by omega) ?_
    exact ⟨Or.inl rfl, rfl, rfl, rfl⟩
/-- the list is looked through -/
theorem r292s (d : Nat) (hL : rL9 G L) (hlen : L.length ≤ 259) (ha : a < 628) (hb : b < 628) (hLb : ∀ y, y ∈ L → y.1 < 628 ∧ y.2 < 628) {Q : mg_Q} (kf : (a, b) ∈ L → Q (.inl none) 0 G) (kn : (a, b) ∉ L → mg_wp (mg_KM scr t) mc_292 d 37 [some (.ref 148), some (.int (Int32.ofNat a)), some (.int (Int32.ofNat b)), some (.int (Int32.ofNat L.length)), none, none, none] [] G Q) : ∀ m k, k + m = L.length → (∀ j, j < k → L[j]? ≠ some (a, b)) → mg_wp (mg_KM scr t) mc_292 d 2 [some (.ref 148), some (.int (Int32.ofNat a)), some (.int (Int32.ofNat b)), some (.int (Int32.ofNat k)), none, none, none] [] G Q := by
  intro m
  induction m with
  | zero =>
    intro k hk hj
    have e : k = L.length := by omega
    subst e
    have hno : (a, b) ∉ L := fun h => by
      obtain ⟨i, hi⟩ := List.mem_iff_getElem?.mp h
      exact hj i (List.getElem?_eq_some_iff.mp hi).1 hi
    refine mg_go [2, 37] 60 2 ms_292 ?_
    exact ⟨_, mg_Fe hL.1 rfl rfl, fun _ => kn hno, fun q => absurd q (Int32.not_lt.mpr (Int32.le_refl _))⟩
  | succ m ih =>
    intro k hk hj
    have hkl : k < L.length := by omega
    obtain ⟨y, hy⟩ : ∃ y, L[k]? = some y := ⟨_, List.getElem?_eq_getElem hkl⟩
    obtain ⟨y1, y2⟩ := hL.2 k y hy
    obtain ⟨b1, b2⟩ := hLb y (List.mem_of_getElem? hy)
    have go : y ≠ (a, b) → mg_wp (mg_KM scr t) mc_292 d 2 [some (.ref 148), some (.int (Int32.ofNat a)), some (.int (Int32.ofNat b)), some (.int (Int32.ofNat (k + 1))), none, none, none] [] G Q := fun hne => ih (k + 1) (by omega) (fun j hj2 h => by
      rcases Nat.lt_or_eq_of_le (Nat.le_of_lt_succ hj2) with h5 | rfl
      · exact hj j h5 h
      · rw [hy] at h
        exact hne (Option.some.inj h))
    rw [← mg_inc k] at go
    refine mg_go [2, 37] 60 2 ms_292 ?_
    refine ⟨_, mg_Fe hL.1 rfl rfl, fun q => absurd q (mg_nle hkl (by omega)), fun _ => ?_⟩
    repeat (first | refine ⟨_, mg_Fs rfl rfl, ?_⟩ | refine ⟨Or.inl rfl, ?_⟩ | refine ⟨Or.inr ⟨_, rfl⟩, ?_⟩ | refine ⟨fun _ => ?_, fun h => absurd h (by decide)⟩ | refine ⟨fun h => absurd h (by decide), fun _ => ?_⟩)
    refine ⟨600, _, k, mg_Ai rfl (by decide), mg_ixN (by omega), by omega, ?_⟩
    rw [y1]
    refine ⟨fun q => go (fun e => q (by rw [e])), fun q1 => ?_⟩
    repeat (first | refine ⟨_, mg_Fs rfl rfl, ?_⟩ | refine ⟨Or.inl rfl, ?_⟩ | refine ⟨Or.inr ⟨_, rfl⟩, ?_⟩ | refine ⟨fun _ => ?_, fun h => absurd h (by decide)⟩ | refine ⟨fun h => absurd h (by decide), fun _ => ?_⟩)
    refine ⟨600, _, k, mg_Ai rfl (by decide), mg_ixN (by omega), by omega, ?_⟩
    rw [y2]
    refine ⟨fun q => go (fun e => q (by rw [e])), fun q2 => ?_⟩
    have e1 := (mg_eqN (by omega) (by omega)).mp q1
    have e2 := (mg_eqN (by omega) (by omega)).mp q2
    exact kf (by
      have := List.mem_of_getElem? hy
      rwa [show y = (a, b) from Prod.ext e1 e2] at this)
/-- the memory behind a pair that is added -/
def rG9 (G : mg_G) (n a b : Nat) : mg_G := mg_sF (mg_sI (mg_sI G 165 n (Int32.ofNat a)) 166 n (Int32.ofNat b)) 148 31 (.int (Int32.ofNat n + Int32.ofInt 1))
theorem rG9_M (G : mg_G) (n a b : Nat) : rM9 G (rG9 G n a b) := ⟨fun c h1 h2 => (mg_sI_nb (mg_sI G 165 n (Int32.ofNat a)) n _ h2).trans (mg_sI_nb G n _ h1), rfl, rfl, rfl, fun c k h => mg_sF_ne _ _ h⟩
theorem rG9_L (hL : rL9 G L) : rL9 (rG9 G L.length a b) (L ++ [(a, b)]) := by
  refine ⟨?_, fun i y hi => ?_⟩
  · refine (mg_sF_at _ _ _ _).trans (congrArg Value.int ?_)
    rw [List.length_append, mg_inc]
    rfl
  · have e165 : ∀ j, (rG9 G L.length a b).1 165 j = (mg_sI G 165 L.length (Int32.ofNat a)).1 165 j := fun j => congrFun (mg_sI_nb (mg_sI G 165 L.length (Int32.ofNat a)) L.length (Int32.ofNat b) (show (165 : Nat) ≠ 166 by decide)) j
    have e166 : ∀ j, j ≠ L.length → (rG9 G L.length a b).1 166 j = G.1 166 j := fun j hj => (mg_sI_ne (mg_sI G 165 L.length (Int32.ofNat a)) 166 L.length (Int32.ofNat b) hj).trans (congrFun (mg_sI_nb G L.length (Int32.ofNat a) (show (166 : Nat) ≠ 165 by decide)) j)
    by_cases hl : i < L.length
    · rw [List.getElem?_append_left hl] at hi
      obtain ⟨y1, y2⟩ := hL.2 i y hi
      exact ⟨(e165 i).trans ((mg_sI_ne G 165 L.length _ (by omega)).trans y1), (e166 i (by omega)).trans y2⟩
    · have hi2 := (List.getElem?_eq_some_iff.mp hi).1
      rw [List.length_append, List.length_singleton] at hi2
      have ei : i = L.length := by omega
      subst ei
      rw [List.getElem?_append_right (Nat.le_refl _), Nat.sub_self] at hi
      cases Option.some.inj hi
      exact ⟨(e165 _).trans (mg_sI_eq G 165 L.length _), mg_sI_eq (mg_sI G 165 L.length (Int32.ofNat a)) 166 L.length _⟩
/-- the pairs that follow -/
theorem r292 (hg : gW (aV A) (aG A)) : ∀ n d (L : List pP) a b (G : mg_G), aV A < n + pL (aG A) (a, b) → pR (aG A) z (a, b) → L.Nodup → (∀ w, w ∈ L → pR (aG A) z w) → rI G A → rGr G (aD A) (aG A) → rL9 G L → mg_m (mg_KM scr t) (d + n + 4) 292 [.ref 148, .int (Int32.ofNat a), .int (Int32.ofNat b)] G (fun o q G' => o = .inl none ∧ q = 0 ∧ rM9 G G' ∧ rL9 G' (g_mt (aG A) (aV A) n L (a, b))) := by
  intro n
  induction n with
  | zero =>
    intro d L a b G hn hR _ _ _ _ _
    have := pL_le hg hR.1
    exact absurd hn (by omega)
  | succ n ih =>
    intro d L a b G hn hR hL hLR hI hGr hL9
    have h628 := hg.2.1
    have h8 := hg.2.2.1
    have ha : a < gN (aG A) := hR.1.1
    have hb : b < gN (aG A) := hR.1.2
    have h259 := p_259 hg hL hLR
    have hd : g_mt (aG A) (aV A) (n + 1) L (a, b) = (if (a, b) ∈ L then L else if pL (aG A) (a, b) < aV A then g_mt (aG A) (aV A) n (g_mt (aG A) (aV A) n (L ++ [(a, b)]) (pO (aG A) (a, b))) (pH (aG A) (a, b)) else L ++ [(a, b)]) := rfl
    rw [hd]
    have e0 : d + (n + 1) + 4 = (d + n + 4) + 1 := by omega
    rw [e0]
    refine mg_me [2] 60 my_292 ms_292 (Nat.le_of_ble_eq_true rfl) ?_
    refine r292s (d + n + 4) hL9 h259 (by omega) (by omega) (fun y hy => ⟨Nat.lt_of_lt_of_le (hLR y hy).1.1 h628, Nat.lt_of_lt_of_le (hLR y hy).1.2 h628⟩) (fun hy => ?_) (fun hy => ?_) L.length 0 (Nat.zero_add _) (fun j hj => absurd hj (Nat.not_lt_zero j))
    · rw [if_pos hy]
      exact ⟨rfl, rfl, rM9.rf G, hL9⟩
    · rw [if_neg hy]
      have hn1 : (L ++ [(a, b)]).Nodup := List.nodup_append.mpr ⟨hL, List.nodup_cons.mpr ⟨List.not_mem_nil, List.nodup_nil⟩, fun u hu v hv e => hy (by rw [List.mem_singleton] at hv; rw [← hv, ← e]; exact hu)⟩
      have hr1 : ∀ w, w ∈ L ++ [(a, b)] → pR (aG A) z w := fun w hw => by
        rcases List.mem_append.mp hw with h | h
        · exact hLR w h
        · rw [List.mem_singleton.mp h]
          exact hR
      have h259' := p_259 hg hn1 hr1
      rw [List.length_append, List.length_singleton] at h259'
      have hM1 := rG9_M G L.length a b
      have hL1 := rG9_L (a := a) (b := b) hL9
      have hI1 : rI (rG9 G L.length a b) A := hM1.X.I hI
      have hG1 := hM1.g hGr
      have k1 := r291 (scr := scr) (t := t) d hI1 hG1 hg ha
      have k2 := r291 (scr := scr) (t := t) d hI1 hG1 hg hb
      have st : ∀ Q : mg_Q, mg_wp (mg_KM scr t) mc_292 (d + n + 4) 80 [some (.ref 148), some (.int (Int32.ofNat a)), some (.int (Int32.ofNat b)), some (.int (Int32.ofNat (a_l8 (aG A) a))), some (.int (Int32.ofNat (a_l8 (aG A) b))), none, none] [] (rG9 G L.length a b) Q → mg_wp (mg_KM scr t) mc_292 (d + n + 4) 37 [some (.ref 148), some (.int (Int32.ofNat a)), some (.int (Int32.ofNat b)), some (.int (Int32.ofNat L.length)), none, none, none] [] G Q := fun Q g => by
        refine mg_go [80] 60 37 ms_292 ?_
        repeat (first | refine ⟨_, mg_Fs rfl rfl, ?_⟩ | refine ⟨Or.inl rfl, ?_⟩ | refine ⟨Or.inr ⟨_, rfl⟩, ?_⟩ | refine ⟨fun _ => ?_, fun h => absurd h (by decide)⟩ | refine ⟨fun h => absurd h (by decide), fun _ => ?_⟩)
        refine ⟨_, mg_Fe hL9.1 rfl rfl, 600, L.length, rfl, mg_ixN (by omega), by omega, ?_⟩
        repeat (first | refine ⟨_, mg_Fs rfl rfl, ?_⟩ | refine ⟨Or.inl rfl, ?_⟩ | refine ⟨Or.inr ⟨_, rfl⟩, ?_⟩ | refine ⟨fun _ => ?_, fun h => absurd h (by decide)⟩ | refine ⟨fun h => absurd h (by decide), fun _ => ?_⟩)
        refine ⟨_, mg_Fe hL9.1 rfl rfl, 600, L.length, rfl, mg_ixN (by omega), by omega, ?_⟩
        refine ⟨_, mg_Fe hL9.1 rfl rfl, rfl, _, rfl, rfl, ?_⟩
        repeat (first | refine ⟨_, mg_Fs rfl rfl, ?_⟩ | refine ⟨Or.inl rfl, ?_⟩ | refine ⟨Or.inr ⟨_, rfl⟩, ?_⟩ | refine ⟨fun _ => ?_, fun h => absurd h (by decide)⟩ | refine ⟨fun h => absurd h (by decide), fun _ => ?_⟩)
        refine mg_cv (k1) (by omega) ?_
        repeat (first | refine ⟨_, mg_Fs rfl rfl, ?_⟩ | refine ⟨Or.inl rfl, ?_⟩ | refine ⟨Or.inr ⟨_, rfl⟩, ?_⟩ | refine ⟨fun _ => ?_, fun h => absurd h (by decide)⟩ | refine ⟨fun h => absurd h (by decide), fun _ => ?_⟩)
        refine mg_cv (k2) (by omega) ?_
        exact g
      refine st _ ?_
      by_cases hl : pL (aG A) (a, b) < aV A
      · rw [if_pos hl]
        obtain ⟨⟨i1, l1⟩, i2, l2⟩ := pC hg hR.1 hl
        obtain ⟨r1, r2⟩ := pR_O hg hR hl
        -- which of both is looked at
        have c12 : (a_l8 (aG A) a ≤ a_l8 (aG A) b ↔ gL (aG A) a ≤ gL (aG A) b) ∧ (a_l8 (aG A) b ≤ a_l8 (aG A) a ↔ gL (aG A) b ≤ gL (aG A) a) ∧ ¬ (a_l8 (aG A) a = 8 ∧ a_l8 (aG A) b = 8) ∧ a_l8 (aG A) a ≤ 8 ∧ a_l8 (aG A) b ≤ 8 := by
          have la := hg.le ha
          have lb := hg.le hb
          have lfa : a < 2 → gL (aG A) a = aV A := hg.2.2.2.1 a
          have lfb : b < 2 → gL (aG A) b = aV A := hg.2.2.2.1 b
          have ina : ¬ a < 2 → gL (aG A) a < aV A := fun q => (hg.2.2.2.2 a (by omega) ha).1
          have inb : ¬ b < 2 → gL (aG A) b < aV A := fun q => (hg.2.2.2.2 b (by omega) hb).1
          have hm : pL (aG A) (a, b) = if gL (aG A) a ≤ gL (aG A) b then gL (aG A) a else gL (aG A) b := rfl
          rw [hm] at hl
          unfold a_l8
          by_cases qa : a < 2
          · by_cases qb : b < 2
            · have := lfa qa
              have := lfb qb
              split at hl <;> omega
            · have := lfa qa
              have := inb qb
              rw [if_pos qa, if_neg qb]
              omega
          · by_cases qb : b < 2
            · have := ina qa
              have := lfb qb
              rw [if_neg qa, if_pos qb]
              omega
            · have := ina qa
              have := inb qb
              rw [if_neg qa, if_neg qb]
              omega
        obtain ⟨c1, c2, c3, c4, c5⟩ := c12
        have go : ∀ b1 b2' : Bool, b1 = decide (gL (aG A) a ≤ gL (aG A) b) → b2' = decide (gL (aG A) b ≤ gL (aG A) a) → mg_wp (mg_KM scr t) mc_292 (d + n + 4) 120 [some (.ref 148), some (.int (Int32.ofNat a)), some (.int (Int32.ofNat b)), some (.int (Int32.ofNat (a_l8 (aG A) a))), some (.int (Int32.ofNat (a_l8 (aG A) b))), some (.int (b2 b1)), some (.int (b2 b2'))] [] (rG9 G L.length a b) (fun o q G' => o = .inl none ∧ q = 0 ∧ rM9 G G' ∧ rL9 G' (g_mt (aG A) (aV A) n (g_mt (aG A) (aV A) n (L ++ [(a, b)]) (pO (aG A) (a, b))) (pH (aG A) (a, b)))) := fun b1 b2' e1 e2 => by
          obtain ⟨m1, m2, m3, m4, m5⟩ := g_mt_ok hg n (L ++ [(a, b)]) (pO (aG A) (a, b)) (by omega) r1 hn1 hr1
          have ko : mg_m (mg_KM scr t) (d + n + 4) 292 [.ref 148, .int (Int32.ofNat (pO (aG A) (a, b)).1), .int (Int32.ofNat (pO (aG A) (a, b)).2)] (rG9 G L.length a b) (fun o q G' => o = .inl none ∧ q = 0 ∧ rM9 (rG9 G L.length a b) G' ∧ rL9 G' (g_mt (aG A) (aV A) n (L ++ [(a, b)]) (pO (aG A) (a, b)))) := ih d (L ++ [(a, b)]) (pO (aG A) (a, b)).1 (pO (aG A) (a, b)).2 (rG9 G L.length a b) (show aV A < n + pL (aG A) (pO (aG A) (a, b)) from by omega) r1 hn1 hr1 hI1 hG1 hL1
          have kh : ∀ G2, rM9 (rG9 G L.length a b) G2 → rL9 G2 (g_mt (aG A) (aV A) n (L ++ [(a, b)]) (pO (aG A) (a, b))) → mg_m (mg_KM scr t) (d + n + 4) 292 [.ref 148, .int (Int32.ofNat (pH (aG A) (a, b)).1), .int (Int32.ofNat (pH (aG A) (a, b)).2)] G2 (fun o q G' => o = .inl none ∧ q = 0 ∧ rM9 G2 G' ∧ rL9 G' (g_mt (aG A) (aV A) n (g_mt (aG A) (aV A) n (L ++ [(a, b)]) (pO (aG A) (a, b))) (pH (aG A) (a, b)))) := fun G2 hM2 hL2 => ih d _ (pH (aG A) (a, b)).1 (pH (aG A) (a, b)).2 G2 (show aV A < n + pL (aG A) (pH (aG A) (a, b)) from by omega) r2 m1 m2 (hM2.X.I hI1) (hM2.g hG1) hL2
          have fin : ∀ G2 G3, rM9 (rG9 G L.length a b) G2 → rM9 G2 G3 → rM9 G G3 := fun G2 G3 x y => (hM1.tr x).tr y
          have arr : ∀ G2, rM9 (rG9 G L.length a b) G2 → ∀ k, 2 ≤ k → k < gN (aG A) → G2.1 157 k = Int32.ofNat (gO (aG A) k) ∧ G2.1 158 k = Int32.ofNat (gH (aG A) k) := fun G2 hM2 k h2 hk => ((hM2.g hG1).2.2 k h2 hk).2
          have hm : pL (aG A) (a, b) = if gL (aG A) a ≤ gL (aG A) b then gL (aG A) a else gL (aG A) b := rfl
          by_cases q1 : gL (aG A) a ≤ gL (aG A) b
          · have a2 : 2 ≤ a := hg.in (by rw [hm, if_pos q1] at hl; exact hl)
            by_cases q2 : gL (aG A) b ≤ gL (aG A) a
            · have b2 : 2 ≤ b := hg.in (by rw [hm, if_pos q1] at hl; omega)
              rw [decide_eq_true q1] at e1
              rw [decide_eq_true q2] at e2
              subst e1 e2
              have o1 : (pO (aG A) (a, b)).1 = gO (aG A) a := if_pos q1
              have o2 : (pO (aG A) (a, b)).2 = gO (aG A) b := if_pos q2
              have h1 : (pH (aG A) (a, b)).1 = gH (aG A) a := if_pos q1
              have h2 : (pH (aG A) (a, b)).2 = gH (aG A) b := if_pos q2
              rw [o1, o2] at ko
              refine mg_go [] 90 120 ms_292 ?_
              refine ⟨fun q => absurd q (by decide), fun _ => ?_⟩
              repeat (first | refine ⟨_, mg_Fs rfl rfl, ?_⟩ | refine ⟨Or.inl rfl, ?_⟩ | refine ⟨Or.inr ⟨_, rfl⟩, ?_⟩ | refine ⟨fun _ => ?_, fun h => absurd h (by decide)⟩ | refine ⟨fun h => absurd h (by decide), fun _ => ?_⟩)
              refine ⟨1000, _, a, mg_Ai rfl (by decide), mg_ixN (by omega), by omega, ?_⟩
              rw [(arr _ (rM9.rf _) a a2 ha).1]
              refine ⟨fun q => absurd q (by decide), fun _ => ?_⟩
              repeat (first | refine ⟨_, mg_Fs rfl rfl, ?_⟩ | refine ⟨Or.inl rfl, ?_⟩ | refine ⟨Or.inr ⟨_, rfl⟩, ?_⟩ | refine ⟨fun _ => ?_, fun h => absurd h (by decide)⟩ | refine ⟨fun h => absurd h (by decide), fun _ => ?_⟩)
              refine ⟨1000, _, b, mg_Ai rfl (by decide), mg_ixN (by omega), by omega, ?_⟩
              rw [(arr _ (rM9.rf _) b b2 hb).1]
              repeat (first | refine ⟨_, mg_Fs rfl rfl, ?_⟩ | refine ⟨Or.inl rfl, ?_⟩ | refine ⟨Or.inr ⟨_, rfl⟩, ?_⟩ | refine ⟨fun _ => ?_, fun h => absurd h (by decide)⟩ | refine ⟨fun h => absurd h (by decide), fun _ => ?_⟩)
              refine mg_m_mono (ko) (by omega) ?_
              rintro o q G2 ⟨rfl, rfl, hM2, hL2⟩
              have kh2 := kh G2 hM2 hL2
              rw [h1, h2] at kh2
              refine ⟨fun q => absurd q (by decide), fun _ => ?_⟩
              repeat (first | refine ⟨_, mg_Fs rfl rfl, ?_⟩ | refine ⟨Or.inl rfl, ?_⟩ | refine ⟨Or.inr ⟨_, rfl⟩, ?_⟩ | refine ⟨fun _ => ?_, fun h => absurd h (by decide)⟩ | refine ⟨fun h => absurd h (by decide), fun _ => ?_⟩)
              refine ⟨1000, _, a, mg_Ai rfl (by decide), mg_ixN (by omega), by omega, ?_⟩
              rw [(arr _ hM2 a a2 ha).2]
              refine ⟨fun q => absurd q (by decide), fun _ => ?_⟩
              repeat (first | refine ⟨_, mg_Fs rfl rfl, ?_⟩ | refine ⟨Or.inl rfl, ?_⟩ | refine ⟨Or.inr ⟨_, rfl⟩, ?_⟩ | refine ⟨fun _ => ?_, fun h => absurd h (by decide)⟩ | refine ⟨fun h => absurd h (by decide), fun _ => ?_⟩)
              refine ⟨1000, _, b, mg_Ai rfl (by decide), mg_ixN (by omega), by omega, ?_⟩
              rw [(arr _ hM2 b b2 hb).2]
              repeat (first | refine ⟨_, mg_Fs rfl rfl, ?_⟩ | refine ⟨Or.inl rfl, ?_⟩ | refine ⟨Or.inr ⟨_, rfl⟩, ?_⟩ | refine ⟨fun _ => ?_, fun h => absurd h (by decide)⟩ | refine ⟨fun h => absurd h (by decide), fun _ => ?_⟩)
              refine mg_m_mono (kh2) (by omega) ?_
              rintro o q G3 ⟨rfl, rfl, hM3, hL3⟩
              exact ⟨rfl, rfl, fin _ _ hM2 hM3, hL3⟩
            · rw [decide_eq_true q1] at e1
              rw [decide_eq_false q2] at e2
              subst e1 e2
              have o1 : (pO (aG A) (a, b)).1 = gO (aG A) a := if_pos q1
              have o2 : (pO (aG A) (a, b)).2 = b := if_neg q2
              have h1 : (pH (aG A) (a, b)).1 = gH (aG A) a := if_pos q1
              have h2 : (pH (aG A) (a, b)).2 = b := if_neg q2
              rw [o1, o2] at ko
              refine mg_go [] 90 120 ms_292 ?_
              refine ⟨fun q => absurd q (by decide), fun _ => ?_⟩
              repeat (first | refine ⟨_, mg_Fs rfl rfl, ?_⟩ | refine ⟨Or.inl rfl, ?_⟩ | refine ⟨Or.inr ⟨_, rfl⟩, ?_⟩ | refine ⟨fun _ => ?_, fun h => absurd h (by decide)⟩ | refine ⟨fun h => absurd h (by decide), fun _ => ?_⟩)
              refine ⟨1000, _, a, mg_Ai rfl (by decide), mg_ixN (by omega), by omega, ?_⟩
              rw [(arr _ (rM9.rf _) a a2 ha).1]
              refine ⟨fun _ => ?_, fun q => absurd rfl q⟩
              repeat (first | refine ⟨_, mg_Fs rfl rfl, ?_⟩ | refine ⟨Or.inl rfl, ?_⟩ | refine ⟨Or.inr ⟨_, rfl⟩, ?_⟩ | refine ⟨fun _ => ?_, fun h => absurd h (by decide)⟩ | refine ⟨fun h => absurd h (by decide), fun _ => ?_⟩)
              refine mg_m_mono (ko) (by omega) ?_
              rintro o q G2 ⟨rfl, rfl, hM2, hL2⟩
              have kh2 := kh G2 hM2 hL2
              rw [h1, h2] at kh2
              refine ⟨fun q => absurd q (by decide), fun _ => ?_⟩
              repeat (first | refine ⟨_, mg_Fs rfl rfl, ?_⟩ | refine ⟨Or.inl rfl, ?_⟩ | refine ⟨Or.inr ⟨_, rfl⟩, ?_⟩ | refine ⟨fun _ => ?_, fun h => absurd h (by decide)⟩ | refine ⟨fun h => absurd h (by decide), fun _ => ?_⟩)
              refine ⟨1000, _, a, mg_Ai rfl (by decide), mg_ixN (by omega), by omega, ?_⟩
              rw [(arr _ hM2 a a2 ha).2]
              refine ⟨fun _ => ?_, fun q => absurd rfl q⟩
              repeat (first | refine ⟨_, mg_Fs rfl rfl, ?_⟩ | refine ⟨Or.inl rfl, ?_⟩ | refine ⟨Or.inr ⟨_, rfl⟩, ?_⟩ | refine ⟨fun _ => ?_, fun h => absurd h (by decide)⟩ | refine ⟨fun h => absurd h (by decide), fun _ => ?_⟩)
              refine mg_m_mono (kh2) (by omega) ?_
              rintro o q G3 ⟨rfl, rfl, hM3, hL3⟩
              exact ⟨rfl, rfl, fin _ _ hM2 hM3, hL3⟩
          · have q2 : gL (aG A) b ≤ gL (aG A) a := by omega
            have b2 : 2 ≤ b := hg.in (by rw [hm, if_neg q1] at hl; exact hl)
            rw [decide_eq_false q1] at e1
            rw [decide_eq_true q2] at e2
            subst e1 e2
            have o1 : (pO (aG A) (a, b)).1 = a := if_neg q1
            have o2 : (pO (aG A) (a, b)).2 = gO (aG A) b := if_pos q2
            have h1 : (pH (aG A) (a, b)).1 = a := if_neg q1
            have h2 : (pH (aG A) (a, b)).2 = gH (aG A) b := if_pos q2
            rw [o1, o2] at ko
            refine mg_go [] 90 120 ms_292 ?_
            refine ⟨fun _ => ?_, fun q => absurd rfl q⟩
            refine ⟨fun q => absurd q (by decide), fun _ => ?_⟩
            repeat (first | refine ⟨_, mg_Fs rfl rfl, ?_⟩ | refine ⟨Or.inl rfl, ?_⟩ | refine ⟨Or.inr ⟨_, rfl⟩, ?_⟩ | refine ⟨fun _ => ?_, fun h => absurd h (by decide)⟩ | refine ⟨fun h => absurd h (by decide), fun _ => ?_⟩)
            refine ⟨1000, _, b, mg_Ai rfl (by decide), mg_ixN (by omega), by omega, ?_⟩
            rw [(arr _ (rM9.rf _) b b2 hb).1]
            repeat (first | refine ⟨_, mg_Fs rfl rfl, ?_⟩ | refine ⟨Or.inl rfl, ?_⟩ | refine ⟨Or.inr ⟨_, rfl⟩, ?_⟩ | refine ⟨fun _ => ?_, fun h => absurd h (by decide)⟩ | refine ⟨fun h => absurd h (by decide), fun _ => ?_⟩)
            refine mg_m_mono (ko) (by omega) ?_
            rintro o q G2 ⟨rfl, rfl, hM2, hL2⟩
            have kh2 := kh G2 hM2 hL2
            rw [h1, h2] at kh2
            refine ⟨fun _ => ?_, fun q => absurd rfl q⟩
            refine ⟨fun q => absurd q (by decide), fun _ => ?_⟩
            repeat (first | refine ⟨_, mg_Fs rfl rfl, ?_⟩ | refine ⟨Or.inl rfl, ?_⟩ | refine ⟨Or.inr ⟨_, rfl⟩, ?_⟩ | refine ⟨fun _ => ?_, fun h => absurd h (by decide)⟩ | refine ⟨fun h => absurd h (by decide), fun _ => ?_⟩)
            refine ⟨1000, _, b, mg_Ai rfl (by decide), mg_ixN (by omega), by omega, ?_⟩
            rw [(arr _ hM2 b b2 hb).2]
            repeat (first | refine ⟨_, mg_Fs rfl rfl, ?_⟩ | refine ⟨Or.inl rfl, ?_⟩ | refine ⟨Or.inr ⟨_, rfl⟩, ?_⟩ | refine ⟨fun _ => ?_, fun h => absurd h (by decide)⟩ | refine ⟨fun h => absurd h (by decide), fun _ => ?_⟩)
            refine mg_m_mono (kh2) (by omega) ?_
            rintro o q G3 ⟨rfl, rfl, hM3, hL3⟩
            exact ⟨rfl, rfl, fin _ _ hM2 hM3, hL3⟩
        have mid : mg_wp (mg_KM scr t) mc_292 (d + n + 4) 94 [some (.ref 148), some (.int (Int32.ofNat a)), some (.int (Int32.ofNat b)), some (.int (Int32.ofNat (a_l8 (aG A) a))), some (.int (Int32.ofNat (a_l8 (aG A) b))), none, none] [] (rG9 G L.length a b) (fun o q G' => o = .inl none ∧ q = 0 ∧ rM9 G G' ∧ rL9 G' (g_mt (aG A) (aV A) n (g_mt (aG A) (aV A) n (L ++ [(a, b)]) (pO (aG A) (a, b))) (pH (aG A) (a, b)))) := by
          refine mg_go [120] 90 94 ms_292 ?_
          refine ⟨fun q1 => ?_, fun q1 => ?_⟩
          · have q1 := (mg_ltN (by omega) (by omega)).mp q1
            refine ⟨fun q2 => ?_, fun q2 => ?_⟩
            · have q2 := (mg_ltN (by omega) (by omega)).mp q2
              exact absurd q1 (by omega)
            · have q2 := (mg_leN (by omega) (by omega)).mp q2
              exact go false true (decide_eq_false (fun h => absurd (c1.mpr h) (by omega))).symm (decide_eq_true (c2.mp q2)).symm
          · have q1 := (mg_leN (by omega) (by omega)).mp q1
            refine ⟨fun q2 => ?_, fun q2 => ?_⟩
            · have q2 := (mg_ltN (by omega) (by omega)).mp q2
              exact go true false (decide_eq_true (c1.mp q1)).symm (decide_eq_false (fun h => absurd (c2.mpr h) (by omega))).symm
            · have q2 := (mg_leN (by omega) (by omega)).mp q2
              exact go true true (decide_eq_true (c1.mp q1)).symm (decide_eq_true (c2.mp q2)).symm
        refine mg_go [94] 90 80 ms_292 ?_
        refine ⟨fun _ => mid, fun q1 => ⟨fun _ => mid, fun q2 => ?_⟩⟩
        have q1 := (mg_eqN (b := 8) (by omega) (by decide)).mp q1
        have q2 := (mg_eqN (b := 8) (by omega) (by decide)).mp q2
        exact absurd ⟨q1, q2⟩ c3
      · rw [if_neg hl]
        have hlf := pL_lf hg hR.1 (by have := pL_le hg hR.1; omega)
        have e1 : a_l8 (aG A) a = 8 := if_pos hlf.1
        have e2 : a_l8 (aG A) b = 8 := if_pos hlf.2
        rw [e1, e2]
        refine mg_go [94] 90 80 ms_292 ?_
        refine ⟨fun q => absurd rfl q, fun _ => ⟨fun q => absurd rfl q, fun _ => ?_⟩⟩
        exact ⟨rfl, rfl, hM1, hL1⟩
end RM
