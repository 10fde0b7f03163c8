/-! REFERENCE: statements -/
section RM
variable {scr : Nat × (Nat → Int32)} {t : List mg_S} {G : mg_G} {A : a_A} {l : List Nat} {p : Nat}
theorem r217M {G0 : mg_G} (d : Nat) (h : tM G0 G A l p) (hp : p ≤ l.length) : mg_m (mg_KM scr t) (d + 7) 217 [.ref 148] G (mg_v (.int (b2 (k_nm l p))) G) := r217 d h.2.1.2.1 h.2.1.2.2 hp
theorem r219M {G0 : mg_G} (d : Nat) (h : tM G0 G A l p) (hp : p ≤ l.length) (h1 : k_K l p = 1) : mg_m (mg_KM scr t) (d + 2) 219 [.ref 148] G (mg_v (.int (a_oi (k_v A l p))) G) := r219 d h.2.1.2.1 h.2.1.2.2 hp h1 h.2.1.1.v (Nat.le_of_lt_succ h.2.1.1.v8) (fun _ hv => h.2.1.1.v9 hv)
theorem r220M {G0 : mg_G} (d : Nat) (h : tM G0 G A l p) (hp : p ≤ l.length) (h1 : k_K l p = 1) : mg_m (mg_KM scr t) (d + 2) 220 [.ref 148] G (mg_v (.int (a_oi (k_f A l p))) G) := r220 d h.2.1.2.1 h.2.1.2.2 hp h1 h.2.1.1.f h.2.1.1.f12 (fun _ hv => h.2.1.1.f9 hv)
theorem r210M {G0 : mg_G} (d : Nat) (h : tM G0 G A l p) (hp : p ≤ l.length) : mg_m (mg_KM scr t) (d + 2) 210 [.ref 148] G (fun o q G' => o = .inl none ∧ q = 0 ∧ tM G0 G' A l (k_E l p)) := mg_m_mono (r210 d h.2.1.2.1 (k_E_le hp) h.2.1.2.2.1) (Nat.le_refl _) (fun o q G' w => ⟨w.1, w.2.1, h.t w.2.2.1 w.2.2.2⟩)
theorem r212M {G0 : mg_G} (d : Nat) (h : tM G0 G A l p) (c : Int32) : mg_m (mg_KM scr t) (d + 1) 212 [.ref 148, .int c] G (fun o q G' => o = .inl (some (.int 0)) ∧ q = 0 ∧ rD G0 l (.inl (c, k_S l p)) (.inl (some (.int 0))) 0 G') := mg_m_mono (r212 d h.2.1.2.2 c) (Nat.le_refl _) (fun o q G' ⟨w1, w2, w3⟩ => ⟨w1, w2, w3 ▸ h.x c⟩)
theorem mg_80 (f : Nat) : Int32.ofNat (90 + 8 * f) = (Int8.ofInt 90).toInt32 + (Int8.ofInt 8).toInt32 * Int32.ofNat f := by
  rw [Int32.ofNat_add, Int32.ofNat_mul]
  rfl
/-- a function's definition -/
theorem r242f (d : Nat) (h : tI G A l p) (hp : p ≤ l.length) (hk : k_kd l p = some 0) : mg_m (mg_KM scr t) (d + 790) 242 [.ref 148] G (rD G l (tLet A l p)) := by
  have hM := h.M
  have hW := h.1.W
  have h12 := h.1.f12
  obtain ⟨-, hK, hlt, hw⟩ := k_kd_w hk
  have hE := k_E_le hp
  have hEE := k_E_le hE
  have hl6 := h.2.1.2.1
  have k0 := r213c (scr := scr) (t := t) d h.2.1 h.2.2 hp (a := 42) (by unfold k_ok; omega) (by decide) (b := 29) (by decide)
  rw [show k_wd l p (k_str 29) = true from hw 0 (by decide)] at k0
  unfold tLet
  by_cases h1 : aF A = 12
  · rw [if_pos h1]
    refine mg_me [79] 60 my_242 ms_242 (Nat.le_of_ble_eq_true rfl) ?_
    repeat (first | refine ⟨_, mg_Fs rfl rfl, ?_⟩ | refine ⟨Or.inl rfl, ?_⟩ | refine ⟨Or.inr ⟨_, rfl⟩, ?_⟩ | refine ⟨fun _ => ?_, fun h => absurd h (by decide)⟩ | refine ⟨fun h => absurd h (by decide), fun _ => ?_⟩)
    refine mg_cv (k0) (by omega) ?_
    refine ⟨fun q => absurd q (by decide), fun _ => ?_⟩
    repeat (first | refine ⟨_, mg_Fs rfl rfl, ?_⟩ | refine ⟨Or.inl rfl, ?_⟩ | refine ⟨Or.inr ⟨_, rfl⟩, ?_⟩ | refine ⟨fun _ => ?_, fun h => absurd h (by decide)⟩ | refine ⟨fun h => absurd h (by decide), fun _ => ?_⟩)
    refine mg_cv (r179n d h.1.f) (by omega) ?_
    refine ⟨fun q => absurd (by rw [h1]; rfl) q, fun _ => ?_⟩
    repeat (first | refine ⟨_, mg_Fs rfl rfl, ?_⟩ | refine ⟨Or.inl rfl, ?_⟩ | refine ⟨Or.inr ⟨_, rfl⟩, ?_⟩ | refine ⟨fun _ => ?_, fun h => absurd h (by decide)⟩ | refine ⟨fun h => absurd h (by decide), fun _ => ?_⟩)
    refine mg_m_mono (r212M d hM 5) (by omega) ?_
    rintro o q G1 ⟨rfl, rfl, w⟩
    exact ⟨Or.inr rfl, w⟩
  rw [if_neg h1]
  unfold tNew
  have st : ∀ Q : mg_Q, (∀ G1, tM G G1 A l (k_E l p) → mg_wp (mg_KM scr t) mc_242 (d + 789) 29 [some (.ref 148), none, none] [] G1 Q) → mg_m (mg_KM scr t) (d + 790) 242 [.ref 148] G Q := fun Q g => by
    refine mg_me [29] 60 my_242 ms_242 (Nat.le_of_ble_eq_true rfl) ?_
    repeat (first | refine ⟨_, mg_Fs rfl rfl, ?_⟩ | refine ⟨Or.inl rfl, ?_⟩ | refine ⟨Or.inr ⟨_, rfl⟩, ?_⟩ | refine ⟨fun _ => ?_, fun h => absurd h (by decide)⟩ | refine ⟨fun h => absurd h (by decide), fun _ => ?_⟩)
    refine mg_cv (k0) (by omega) ?_
    refine ⟨fun q => absurd q (by decide), fun _ => ?_⟩
    repeat (first | refine ⟨_, mg_Fs rfl rfl, ?_⟩ | refine ⟨Or.inl rfl, ?_⟩ | refine ⟨Or.inr ⟨_, rfl⟩, ?_⟩ | refine ⟨fun _ => ?_, fun h => absurd h (by decide)⟩ | refine ⟨fun h => absurd h (by decide), fun _ => ?_⟩)
    refine mg_cv (r179n d h.1.f) (by omega) ?_
    refine ⟨fun _ => ?_, fun q => absurd ((mg_eqN (b := 12) (by omega) (by decide)).mp q) h1⟩
    repeat (first | refine ⟨_, mg_Fs rfl rfl, ?_⟩ | refine ⟨Or.inl rfl, ?_⟩ | refine ⟨Or.inr ⟨_, rfl⟩, ?_⟩ | refine ⟨fun _ => ?_, fun h => absurd h (by decide)⟩ | refine ⟨fun h => absurd h (by decide), fun _ => ?_⟩)
    refine mg_m_mono (r210M d hM hp) (by omega) ?_
    rintro o q G1 ⟨rfl, rfl, w⟩
    exact g G1 w
  refine st _ (fun G1 hM1 => ?_)
  cases b1 : k_nm l (k_E l p) with
  | false =>
    rw [if_neg (by decide)]
    refine mg_go [79] 60 29 ms_242 ?_
    repeat (first | refine ⟨_, mg_Fs rfl rfl, ?_⟩ | refine ⟨Or.inl rfl, ?_⟩ | refine ⟨Or.inr ⟨_, rfl⟩, ?_⟩ | refine ⟨fun _ => ?_, fun h => absurd h (by decide)⟩ | refine ⟨fun h => absurd h (by decide), fun _ => ?_⟩)
    refine mg_cv (r222x d hM1.2.1.2.1 hM1.2.1.2.2 hE b1) (by omega) ?_
    refine ⟨fun q => absurd rfl q, fun _ => ?_⟩
    exact ⟨Or.inr rfl, hM1.x 1⟩
  | true =>
  rw [if_pos rfl]
  cases b2 : t_nw A l (k_E l p) with
  | false =>
    rw [if_neg (by decide)]
    refine mg_go [79] 60 29 ms_242 ?_
    repeat (first | refine ⟨_, mg_Fs rfl rfl, ?_⟩ | refine ⟨Or.inl rfl, ?_⟩ | refine ⟨Or.inr ⟨_, rfl⟩, ?_⟩ | refine ⟨fun _ => ?_, fun h => absurd h (by decide)⟩ | refine ⟨fun h => absurd h (by decide), fun _ => ?_⟩)
    refine mg_cv (r222z d hM1.2.1.1.V9 hM1.2.1.2.1 hM1.2.1.2.2 hE b1 b2) (by omega) ?_
    refine ⟨fun q => absurd rfl q, fun _ => ?_⟩
    exact ⟨Or.inr rfl, hM1.x 4⟩
  | true =>
  rw [if_pos rfl]
  obtain ⟨r, hr⟩ := zP_97 hW hl6 hEE
  rw [hr]
  have hK1 := k_nm_1 b1
  have hwn := (k_W_nm hE hK1).1
  have kk := r221 (scr := scr) (t := t) d hM1.2.1.2.1 hM1.2.1.2.2 hE hK1 (at' := 90 + 8 * aF A) (by omega)
  rw [mg_80] at kk
  have st : ∀ Q : mg_Q, (∀ G4, tM G G4 A l (k_E l (k_E l p)) → zI G4 A l (k_E l (k_E l p)) 0 [] → rNm G4 (90 + 8 * aF A) (k_W l (k_E l p)) → mg_wp (mg_KM scr t) mc_242 (d + 789) 68 [some (.ref 148), some (.int (Int32.ofNat (aF A))), none] [] G4 Q) → mg_wp (mg_KM scr t) mc_242 (d + 789) 29 [some (.ref 148), none, none] [] G1 Q := fun Q g => by
    refine mg_go [68] 60 29 ms_242 ?_
    repeat (first | refine ⟨_, mg_Fs rfl rfl, ?_⟩ | refine ⟨Or.inl rfl, ?_⟩ | refine ⟨Or.inr ⟨_, rfl⟩, ?_⟩ | refine ⟨fun _ => ?_, fun h => absurd h (by decide)⟩ | refine ⟨fun h => absurd h (by decide), fun _ => ?_⟩)
    refine mg_cv (r222y d hM1.2.1.1.V9 hM1.2.1.2.1 hM1.2.1.2.2 hE b1 b2) (by omega) ?_
    refine ⟨fun _ => ?_, fun q => absurd q (by decide)⟩
    repeat (first | refine ⟨_, mg_Fs rfl rfl, ?_⟩ | refine ⟨Or.inl rfl, ?_⟩ | refine ⟨Or.inr ⟨_, rfl⟩, ?_⟩ | refine ⟨fun _ => ?_, fun h => absurd h (by decide)⟩ | refine ⟨fun h => absurd h (by decide), fun _ => ?_⟩)
    refine mg_cv (r179n d hM1.2.1.1.f) (by omega) ?_
    repeat (first | refine ⟨_, mg_Fs rfl rfl, ?_⟩ | refine ⟨Or.inl rfl, ?_⟩ | refine ⟨Or.inr ⟨_, rfl⟩, ?_⟩ | refine ⟨fun _ => ?_, fun h => absurd h (by decide)⟩ | refine ⟨fun h => absurd h (by decide), fun _ => ?_⟩)
    refine mg_m_mono (kk) (by omega) ?_
    rintro o q G2 ⟨rfl, rfl, f, rfl, hNm, hfe⟩
    have hz : rPz G1 (gM G1 149 f) := (r0.u G1 (fun j hj => hfe j (by omega))).z
    have hI2 : rI (gM G1 149 f) A := by
      have ne : ∀ j, j < 90 + 8 * aF A → (gM G1 149 f).1 149 j = G1.1 149 j := fun j hj => (gM_at G1 149 f j).trans (hfe j (by omega))
      have hI1 := hM1.2.1.1
      have h8 := hI1.v8
      refine ⟨hI1.1, bA0 ?_ ?_ ?_ ?_ ?_ ?_ ?_ ?_, hW⟩
      · rw [ne 0 (by omega)]; exact hI1.v
      · rw [ne 1 (by omega)]; exact hI1.f
      · intro j hj; rw [ne _ (by omega)]; exact hI1.o hj
      · intro j hj; rw [ne _ (by omega)]; exact hI1.c hj
      · intro j hj; rw [ne _ (by omega)]; exact hI1.p hj
      · intro j hj
        have hl := (hW.2.2.2.2.1 j hj).1.2
        refine ⟨by rw [ne _ (by omega)]; exact (hI1.vn hj).1, fun i c hi => ?_⟩
        have hi2 := (List.getElem?_eq_some_iff.mp hi).1
        rw [ne _ (by omega)]
        exact (hI1.vn hj).2 i c hi
      · intro j hj
        have hl := (hW.2.2.2.2.2.1 j hj).2
        refine ⟨by rw [ne _ (by omega)]; exact (hI1.fn hj).1, fun i c hi => ?_⟩
        have hi2 := (List.getElem?_eq_some_iff.mp hi).1
        rw [ne _ (by omega)]
        exact (hI1.fn hj).2 i c hi
      · intro j hj; exact hI1.t hj
    have hM2 := hM1.z hI2 hz
    repeat (first | refine ⟨_, mg_Fs rfl rfl, ?_⟩ | refine ⟨Or.inl rfl, ?_⟩ | refine ⟨Or.inr ⟨_, rfl⟩, ?_⟩ | refine ⟨fun _ => ?_, fun h => absurd h (by decide)⟩ | refine ⟨fun h => absurd h (by decide), fun _ => ?_⟩)
    refine mg_m_mono (r210 d hM2.2.1.2.1 hEE hM2.2.1.2.2.1) (by omega) ?_
    rintro o q G3 ⟨rfl, rfl, hk3, hf3⟩
    have hM3 := hM2.t hk3 hf3
    have hz4 : rRf G3 (mg_sF (mg_sF G3 148 28 (.int 0)) 148 26 (.int 0)) := ⟨fun _ _ => ⟨rfl, rfl⟩, rfl, rfl, fun b k hb => (mg_sF_ne _ _ (by omega)).trans (mg_sF_ne _ _ (by omega))⟩
    have e4 : ∀ k, k ≠ 28 → k ≠ 26 → (mg_sF (mg_sF G3 148 28 (.int 0)) 148 26 (.int 0)).2.2.2.2 148 k = G3.2.2.2.2 148 k := fun k a b => (mg_sF_ne _ _ (by omega)).trans (mg_sF_ne _ _ (by omega))
    have hk4 : rk (mg_sF (mg_sF G3 148 28 (.int 0)) 148 26 (.int 0)) l (k_E l (k_E l p)) := ⟨(e4 22 (by decide) (by decide)).trans hk3.1, (e4 23 (by decide) (by decide)).trans hk3.2.1, (e4 24 (by decide) (by decide)).trans hk3.2.2.1, fun z => (e4 25 (by decide) (by decide)).trans (hk3.2.2.2 z)⟩
    have hI4 := hz4.I hM3.2.1.1
    have hN4 := hz4.n hM3.2.1.2.1
    have hM4 : tM G (mg_sF (mg_sF G3 148 28 (.int 0)) 148 26 (.int 0)) A l (k_E l (k_E l p)) := ⟨hM3.1.tr hz4.t, ⟨hI4, hN4, hk4⟩, (e4 6 (by decide) (by decide)).trans hM3.2.2.1, (e4 7 (by decide) (by decide)).trans hM3.2.2.2⟩
    have hNm4 : rNm (mg_sF (mg_sF G3 148 28 (.int 0)) 148 26 (.int 0)) (90 + 8 * aF A) (k_W l (k_E l p)) := by
      have e : G3.1 = (gM G1 149 f).1 := hf3.1
      exact ⟨(congrFun (congrFun e 149) _).trans hNm.1, fun i c hi => (congrFun (congrFun e 149) _).trans (hNm.2 i c hi)⟩
    refine ⟨rfl, _, rfl, rfl, rfl, _, rfl, rfl, ?_⟩
    exact g _ hM4 ⟨hI4, hN4, hk4, ⟨(mg_sF_ne _ _ (by decide)).trans (mg_sF_at _ _ _ _), fun i T hi => absurd hi (by simp)⟩, mg_sF_at _ _ _ _⟩ hNm4
  refine st _ (fun G4 hM4 hZ4 hNm4 => ?_)
  have kf : mg_m (mg_KM scr t) (d + 8 * (20 - 0) + (6 - 0) + (l.length - k_E l (k_E l p)) + 10) 231 [.ref 148] G4 (zQ G4 l 0 [] r) := (zF_all hW 9700).1 0 0 _ [] r G4 (by decide) (by decide) hEE (by decide) hZ4 hr d
  cases r with
  | inl e =>
    refine mg_go [79] 60 68 ms_242 ?_
    repeat (first | refine ⟨_, mg_Fs rfl rfl, ?_⟩ | refine ⟨Or.inl rfl, ?_⟩ | refine ⟨Or.inr ⟨_, rfl⟩, ?_⟩ | refine ⟨fun _ => ?_, fun h => absurd h (by decide)⟩ | refine ⟨fun h => absurd h (by decide), fun _ => ?_⟩)
    refine mg_m_mono (kf) (by omega) ?_
    rintro o q G5 ⟨rfl, hR, rfl, w1, w2⟩
    refine ⟨fun q => absurd rfl q, fun _ => ?_⟩
    exact ⟨Or.inr rfl, rfl, hM4.1.tr hR.t, rfl, w1, w2⟩
  | inr x =>
    obtain ⟨T, q9⟩ := x
    obtain ⟨m1, m2, m3, m4⟩ := zP_okn hW hEE hr
    refine mg_go [79] 60 68 ms_242 ?_
    repeat (first | refine ⟨_, mg_Fs rfl rfl, ?_⟩ | refine ⟨Or.inl rfl, ?_⟩ | refine ⟨Or.inr ⟨_, rfl⟩, ?_⟩ | refine ⟨fun _ => ?_, fun h => absurd h (by decide)⟩ | refine ⟨fun h => absurd h (by decide), fun _ => ?_⟩)
    refine mg_m_mono (kf) (by omega) ?_
    rintro o q G5 ⟨rfl, hR, rfl, w1, w2, w3, w4, w5⟩
    have hI5 := hR.I hM4.2.1.1
    have hT5 : cRow G5 164 0 4 T := w2.2 0 T rfl
    have hNm5 : rNm G5 (90 + 8 * aF A) (k_W l (k_E l p)) := by
      have e := (hR.1 149 (by decide)).1
      exact ⟨(congrFun e _).trans hNm4.1, fun i c hi => (congrFun e _).trans (hNm4.2 i c hi)⟩
    have hM5 : tM G G5 A l q9 := ⟨hM4.1.tr hR.t, ⟨hI5, hR.n hM4.2.1.2.1, w1⟩, w4.trans hM4.2.2.1, w5.trans hM4.2.2.2⟩
    refine ⟨fun _ => ?_, fun q => absurd q (by decide)⟩
    exact r242l (d + 789) hI5 hT5 (by omega) m3 hNm5 hwn (fun G6 hI6 hz6 => (hM5.z hI6 hz6).Q)
/-- costs and percentages -/
theorem r242n (d : Nat) (h : tI G A l p) (hp : p ≤ l.length) {k : Nat} (hk : k_kd l p = some k) (h12 : k = 1 ∨ k = 2) : mg_m (mg_KM scr t) (d + 30) 242 [.ref 148] G (rD G l (tC A l p k)) := by
  have hM := h.M
  have hW := h.1.W
  have h8 := h.1.v8
  obtain ⟨-, hK, hlt, hw⟩ := k_kd_w hk
  have hE := k_E_le hp
  have hEE := k_E_le hE
  have k0 := r213c (scr := scr) (t := t) d h.2.1 h.2.2 hp (a := 42) (by unfold k_ok; omega) (by decide) (b := 29) (by decide)
  rw [show k_wd l p (k_str 29) = false from (hw 0 (by decide)).trans (decide_eq_false (by omega))] at k0
  have k1 := r213c (scr := scr) (t := t) d h.2.1 h.2.2 hp (a := 43) (by unfold k_ok; omega) (by decide) (b := 30) (by decide)
  rw [show k_wd l p (k_str 30) = decide (k = 1) from (hw 1 (by decide)).trans (by rcases h12 with rfl | rfl <;> rfl)] at k1
  have hto : tC A l p k = tVar A l (k_E l p) fun v q => tNum l q (if k = 1 then 100 else 101) fun n q => .inr (if k = 1 then setC A v (Int32.ofNat n) else setP A v (Int32.ofNat n), q) := by
    rcases h12 with rfl | rfl <;> rfl
  rw [hto]
  have st : ∀ Q : mg_Q, (∀ G1, tM G G1 A l (k_E l p) → mg_wp (mg_KM scr t) mc_242 (d + 29) 139 [some (.ref 148), some (.int (Int32.ofNat (if k = 1 then 10 else 18))), none] [] G1 Q) → mg_m (mg_KM scr t) (d + 30) 242 [.ref 148] G Q := fun Q g => by
    refine mg_me [139] 60 my_242 ms_242 (Nat.le_of_ble_eq_true rfl) ?_
    repeat (first | refine ⟨_, mg_Fs rfl rfl, ?_⟩ | refine ⟨Or.inl rfl, ?_⟩ | refine ⟨Or.inr ⟨_, rfl⟩, ?_⟩ | refine ⟨fun _ => ?_, fun h => absurd h (by decide)⟩ | refine ⟨fun h => absurd h (by decide), fun _ => ?_⟩)
    refine mg_cv (k0) (by omega) ?_
    refine ⟨fun _ => ?_, fun q => absurd rfl q⟩
    repeat (first | refine ⟨_, mg_Fs rfl rfl, ?_⟩ | refine ⟨Or.inl rfl, ?_⟩ | refine ⟨Or.inr ⟨_, rfl⟩, ?_⟩ | refine ⟨fun _ => ?_, fun h => absurd h (by decide)⟩ | refine ⟨fun h => absurd h (by decide), fun _ => ?_⟩)
    refine mg_cv (k1) (by omega) ?_
    rcases h12 with rfl | rfl
    · refine ⟨fun q => absurd q (by decide), fun _ => ?_⟩
      repeat (first | refine ⟨_, mg_Fs rfl rfl, ?_⟩ | refine ⟨Or.inl rfl, ?_⟩ | refine ⟨Or.inr ⟨_, rfl⟩, ?_⟩ | refine ⟨fun _ => ?_, fun h => absurd h (by decide)⟩ | refine ⟨fun h => absurd h (by decide), fun _ => ?_⟩)
      refine mg_m_mono (r210M d hM hp) (by omega) ?_
      rintro o q G1 ⟨rfl, rfl, w⟩
      exact g G1 w
    · refine ⟨fun _ => ?_, fun q => absurd rfl q⟩
      repeat (first | refine ⟨_, mg_Fs rfl rfl, ?_⟩ | refine ⟨Or.inl rfl, ?_⟩ | refine ⟨Or.inr ⟨_, rfl⟩, ?_⟩ | refine ⟨fun _ => ?_, fun h => absurd h (by decide)⟩ | refine ⟨fun h => absurd h (by decide), fun _ => ?_⟩)
      refine mg_m_mono (r210M d hM hp) (by omega) ?_
      rintro o q G1 ⟨rfl, rfl, w⟩
      exact g G1 w
  refine st _ (fun G1 hM1 => ?_)
  unfold tVar
  have kn := r217M (scr := scr) (t := t) d hM1 hE
  cases b1 : k_nm l (k_E l p) with
  | false =>
    rw [b1] at kn
    rw [if_neg (show ¬ (false = true) from by decide)]
    refine mg_go [] 60 139 ms_242 ?_
    repeat (first | refine ⟨_, mg_Fs rfl rfl, ?_⟩ | refine ⟨Or.inl rfl, ?_⟩ | refine ⟨Or.inr ⟨_, rfl⟩, ?_⟩ | refine ⟨fun _ => ?_, fun h => absurd h (by decide)⟩ | refine ⟨fun h => absurd h (by decide), fun _ => ?_⟩)
    refine mg_cv (kn) (by omega) ?_
    refine ⟨fun q => absurd rfl q, fun _ => ?_⟩
    repeat (first | refine ⟨_, mg_Fs rfl rfl, ?_⟩ | refine ⟨Or.inl rfl, ?_⟩ | refine ⟨Or.inr ⟨_, rfl⟩, ?_⟩ | refine ⟨fun _ => ?_, fun h => absurd h (by decide)⟩ | refine ⟨fun h => absurd h (by decide), fun _ => ?_⟩)
    refine mg_m_mono (r212M d hM1 1) (by omega) ?_
    rintro o q G2 ⟨rfl, rfl, w⟩
    exact ⟨Or.inr rfl, w⟩
  | true =>
  rw [b1] at kn
  rw [if_pos rfl]
  have kv := r219M (scr := scr) (t := t) d hM1 hE (k_nm_1 b1)
  cases ev : k_v A l (k_E l p) with
  | none =>
    rw [ev] at kv
    refine mg_go [] 60 139 ms_242 ?_
    repeat (first | refine ⟨_, mg_Fs rfl rfl, ?_⟩ | refine ⟨Or.inl rfl, ?_⟩ | refine ⟨Or.inr ⟨_, rfl⟩, ?_⟩ | refine ⟨fun _ => ?_, fun h => absurd h (by decide)⟩ | refine ⟨fun h => absurd h (by decide), fun _ => ?_⟩)
    refine mg_cv (kn) (by omega) ?_
    refine ⟨fun _ => ?_, fun q => absurd q (by decide)⟩
    repeat (first | refine ⟨_, mg_Fs rfl rfl, ?_⟩ | refine ⟨Or.inl rfl, ?_⟩ | refine ⟨Or.inr ⟨_, rfl⟩, ?_⟩ | refine ⟨fun _ => ?_, fun h => absurd h (by decide)⟩ | refine ⟨fun h => absurd h (by decide), fun _ => ?_⟩)
    refine mg_cv (kv) (by omega) ?_
    refine ⟨fun q => absurd rfl q, fun _ => ?_⟩
    repeat (first | refine ⟨_, mg_Fs rfl rfl, ?_⟩ | refine ⟨Or.inl rfl, ?_⟩ | refine ⟨Or.inr ⟨_, rfl⟩, ?_⟩ | refine ⟨fun _ => ?_, fun h => absurd h (by decide)⟩ | refine ⟨fun h => absurd h (by decide), fun _ => ?_⟩)
    refine mg_m_mono (r212M d hM1 3) (by omega) ?_
    rintro o q G2 ⟨rfl, rfl, w⟩
    exact ⟨Or.inr rfl, w⟩
  | some v =>
  have hv2 : v < aV A := k_at_lt ev
  rw [ev] at kv
  have st : ∀ Q : mg_Q, (∀ G2, tM G G2 A l (k_E l (k_E l p)) → mg_wp (mg_KM scr t) mc_242 (d + 29) 172 [some (.ref 148), some (.int (Int32.ofNat (if k = 1 then 10 else 18))), some (.int (Int32.ofNat v))] [] G2 Q) → mg_wp (mg_KM scr t) mc_242 (d + 29) 139 [some (.ref 148), some (.int (Int32.ofNat (if k = 1 then 10 else 18))), none] [] G1 Q := fun Q g => by
    refine mg_go [172] 60 139 ms_242 ?_
    repeat (first | refine ⟨_, mg_Fs rfl rfl, ?_⟩ | refine ⟨Or.inl rfl, ?_⟩ | refine ⟨Or.inr ⟨_, rfl⟩, ?_⟩ | refine ⟨fun _ => ?_, fun h => absurd h (by decide)⟩ | refine ⟨fun h => absurd h (by decide), fun _ => ?_⟩)
    refine mg_cv (kn) (by omega) ?_
    refine ⟨fun _ => ?_, fun q => absurd q (by decide)⟩
    repeat (first | refine ⟨_, mg_Fs rfl rfl, ?_⟩ | refine ⟨Or.inl rfl, ?_⟩ | refine ⟨Or.inr ⟨_, rfl⟩, ?_⟩ | refine ⟨fun _ => ?_, fun h => absurd h (by decide)⟩ | refine ⟨fun h => absurd h (by decide), fun _ => ?_⟩)
    refine mg_cv (kv) (by omega) ?_
    refine ⟨fun _ => ?_, fun q => absurd q (mg_n1 (by omega))⟩
    repeat (first | refine ⟨_, mg_Fs rfl rfl, ?_⟩ | refine ⟨Or.inl rfl, ?_⟩ | refine ⟨Or.inr ⟨_, rfl⟩, ?_⟩ | refine ⟨fun _ => ?_, fun h => absurd h (by decide)⟩ | refine ⟨fun h => absurd h (by decide), fun _ => ?_⟩)
    refine mg_m_mono (r210M d hM1 hE) (by omega) ?_
    rintro o q G2 ⟨rfl, rfl, w⟩
    exact g G2 w
  refine st _ (fun G2 hM2 => ?_)
  have hk2 := hM2.2.1.2.2
  have hK4 := k_K4 l (k_E l (k_E l p))
  show mg_wp _ _ _ _ _ _ _ (rD G l (tNum l (k_E l (k_E l p)) (if k = 1 then 100 else 101) fun n q => .inr (if k = 1 then setC A v (Int32.ofNat n) else setP A v (Int32.ofNat n), q)))
  unfold tNum
  by_cases b2 : k_K l (k_E l (k_E l p)) = 2
  · rw [if_pos b2]
    have hN9 := k_N_lt hEE b2
    have h25 := hk2.2.2.2 b2
    rcases h12 with rfl | rfl
    · by_cases b3 : k_N l (k_E l (k_E l p)) < 100
      · obtain ⟨c1, c2⟩ := hM2.2.1.1.sC9 hv2 (Int32.ofNat (k_N l (k_E l (k_E l p))))
        rw [if_pos (show k_N l (k_E l (k_E l p)) < (if 1 = 1 then 100 else 101) from b3)]
        refine mg_go [] 60 172 ms_242 ?_
        refine ⟨_, mg_Fe hk2.2.1 rfl rfl, fun _ => ?_, fun q => absurd (by rw [b2]; rfl) q⟩
        refine ⟨_, mg_Fe h25 rfl rfl, fun q => absurd rfl q, fun _ => ⟨fun _ => ?_, fun q => absurd q (mg_nlt (b := 99) (by omega) (by omega))⟩⟩
        refine ⟨_, mg_Fs rfl rfl, _, mg_Fe h25 rfl rfl, 2232, 10 + v, rfl, mg_ixE (by rw [Int32.ofNat_add]; rfl) (by omega), by omega, ?_⟩
        repeat (first | refine ⟨_, mg_Fs rfl rfl, ?_⟩ | refine ⟨Or.inl rfl, ?_⟩ | refine ⟨Or.inr ⟨_, rfl⟩, ?_⟩ | refine ⟨fun _ => ?_, fun h => absurd h (by decide)⟩ | refine ⟨fun h => absurd h (by decide), fun _ => ?_⟩)
        refine mg_m_mono (r210M d (hM2.z c1 c2) hEE) (by omega) ?_
        rintro o q G3 ⟨rfl, rfl, w⟩
        exact ⟨Or.inr rfl, w.Q⟩
      · rw [if_neg (show ¬ k_N l (k_E l (k_E l p)) < (if 1 = 1 then 100 else 101) from b3)]
        refine mg_go [] 60 172 ms_242 ?_
        refine ⟨_, mg_Fe hk2.2.1 rfl rfl, fun _ => ?_, fun q => absurd (by rw [b2]; rfl) q⟩
        refine ⟨_, mg_Fe h25 rfl rfl, fun q => absurd rfl q, fun _ => ⟨fun q => absurd q (mg_nle (a := 99) (by omega) (by omega)), fun _ => ?_⟩⟩
        repeat (first | refine ⟨_, mg_Fs rfl rfl, ?_⟩ | refine ⟨Or.inl rfl, ?_⟩ | refine ⟨Or.inr ⟨_, rfl⟩, ?_⟩ | refine ⟨fun _ => ?_, fun h => absurd h (by decide)⟩ | refine ⟨fun h => absurd h (by decide), fun _ => ?_⟩)
        refine mg_m_mono (r212M d hM2 2) (by omega) ?_
        rintro o q G3 ⟨rfl, rfl, w⟩
        exact ⟨Or.inr rfl, w⟩
    · by_cases b3 : k_N l (k_E l (k_E l p)) < 101
      · obtain ⟨c1, c2⟩ := hM2.2.1.1.sP9 hv2 (n := k_N l (k_E l (k_E l p))) (by omega)
        rw [if_pos (show k_N l (k_E l (k_E l p)) < (if 2 = 1 then 100 else 101) from b3)]
        refine mg_go [] 60 172 ms_242 ?_
        refine ⟨_, mg_Fe hk2.2.1 rfl rfl, fun _ => ?_, fun q => absurd (by rw [b2]; rfl) q⟩
        refine ⟨_, mg_Fe h25 rfl rfl, fun _ => ⟨fun _ => ?_, fun q => absurd q (mg_nlt (b := 100) (by omega) (by omega))⟩, fun q => absurd q (by decide)⟩
        refine ⟨_, mg_Fs rfl rfl, _, mg_Fe h25 rfl rfl, 2232, 18 + v, rfl, mg_ixE (by rw [Int32.ofNat_add]; rfl) (by omega), by omega, ?_⟩
        repeat (first | refine ⟨_, mg_Fs rfl rfl, ?_⟩ | refine ⟨Or.inl rfl, ?_⟩ | refine ⟨Or.inr ⟨_, rfl⟩, ?_⟩ | refine ⟨fun _ => ?_, fun h => absurd h (by decide)⟩ | refine ⟨fun h => absurd h (by decide), fun _ => ?_⟩)
        refine mg_m_mono (r210M d (hM2.z c1 c2) hEE) (by omega) ?_
        rintro o q G3 ⟨rfl, rfl, w⟩
        exact ⟨Or.inr rfl, w.Q⟩
      · rw [if_neg (show ¬ k_N l (k_E l (k_E l p)) < (if 2 = 1 then 100 else 101) from b3)]
        refine mg_go [] 60 172 ms_242 ?_
        refine ⟨_, mg_Fe hk2.2.1 rfl rfl, fun _ => ?_, fun q => absurd (by rw [b2]; rfl) q⟩
        refine ⟨_, mg_Fe h25 rfl rfl, fun _ => ⟨fun q => absurd q (mg_nle (a := 100) (by omega) (by omega)), fun _ => ?_⟩, fun q => absurd q (by decide)⟩
        repeat (first | refine ⟨_, mg_Fs rfl rfl, ?_⟩ | refine ⟨Or.inl rfl, ?_⟩ | refine ⟨Or.inr ⟨_, rfl⟩, ?_⟩ | refine ⟨fun _ => ?_, fun h => absurd h (by decide)⟩ | refine ⟨fun h => absurd h (by decide), fun _ => ?_⟩)
        refine mg_m_mono (r212M d hM2 2) (by omega) ?_
        rintro o q G3 ⟨rfl, rfl, w⟩
        exact ⟨Or.inr rfl, w⟩
  · rw [if_neg b2]
    refine mg_go [] 60 172 ms_242 ?_
    refine ⟨_, mg_Fe hk2.2.1 rfl rfl, fun q => absurd ((mg_eqN (b := 2) (by omega) (by decide)).mp q) b2, fun _ => ?_⟩
    repeat (first | refine ⟨_, mg_Fs rfl rfl, ?_⟩ | refine ⟨Or.inl rfl, ?_⟩ | refine ⟨Or.inr ⟨_, rfl⟩, ?_⟩ | refine ⟨fun _ => ?_, fun h => absurd h (by decide)⟩ | refine ⟨fun h => absurd h (by decide), fun _ => ?_⟩)
    refine mg_m_mono (r212M d hM2 1) (by omega) ?_
    rintro o q G3 ⟨rfl, rfl, w⟩
    exact ⟨Or.inr rfl, w⟩
end RM
