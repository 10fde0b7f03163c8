section KC
variable {scr : Nat × (Nat → Int32)} {t : List mg_S} {A : a_A} {l : List Nat} {n o p pc row : Nat} {r : zEr ⊕ (a_T × Nat)} {G G0 : mg_G}
theorem c55 (ih : yIH scr t A l n) (hW : aW A) (ho : o ≤ 20) (hp : p ≤ l.length) (hrow : row ≤ 7 * o + 5) (hpc : pc ≤ p) (hI : yI G A l p pc) (hlt : k_S l p < k_E l p) (h : (if k_is l (k_E l p) 40 = true then (if o = 20 then zErr 5 l (k_E l p) else
          zB (zP A l n 0 none (o + 1) (k_E l (k_E l p))) (fun c q => if k_is l q 44 = true then zB (zP A l n 0 none (o + 1) (k_E l q)) (fun x q => if k_is l q 44 = true then zB (zP A l n 0 none (o + 1) (k_E l q)) (fun y q => if k_is l q 41 = true then some (.inr (a_sel c x y, k_E l q)) else zErr 1 l q) else zErr 1 l q) else zErr 1 l q))
        else zErr 1 l (k_E l p)) = some r) (d : Nat) : mg_m (mg_KC scr t) (d + 8 * (20 - o) + 12) 55 [.ref 3, .int (Int32.ofNat o), .int (Int32.ofNat row)] G (yQ G A l row pc r) := by
  have hN := hI.2.2.1
  have hk := hI.2.2.2.2.1
  have h8 : aV A ≤ 8 := hW.2.1.2.2.2
  obtain ⟨hn, -⟩ := a_wds_i (aV A) h8
  have h4 : a_wds (aV A) ≤ 4 := by omega
  have hE := k_E_le hp
  have hEE := k_E_le hE
  have hS := k_S_ge l p
  have hS2 := k_S_ge l (k_E l p)
  have hSE2 := k_E_ge l (k_E l p)
  have hZ0 := hI.Z row pc
  have e0 : d + 8 * (20 - o) + 12 = (d + 8 * (20 - o) + 11) + 1 := by omega
  rw [e0]
  cases b1 : k_is l (k_E l p) 40 with
  | false =>
    rw [b1, if_neg (by decide)] at h
    cases h
    refine mg_me [] 60 my_55 ms_55 (Nat.le_of_ble_eq_true rfl) ?_
    repeat (first | refine ⟨_, mg_Fs rfl rfl, ?_⟩ | refine ⟨Or.inl rfl, ?_⟩ | refine ⟨Or.inr ⟨_, rfl⟩, ?_⟩ | refine ⟨fun _ => ?_, fun h => absurd h (by decide)⟩ | refine ⟨fun h => absurd h (by decide), fun _ => ?_⟩)
    refine mg_m_mono (c93 d hN hE hI.2.2.2.1 hk.1) (by omega) ?_
    rintro o1 q1 G1 ⟨rfl, rfl, w1, w2, w3⟩
    repeat (first | refine ⟨_, mg_Fs rfl rfl, ?_⟩ | refine ⟨Or.inl rfl, ?_⟩ | refine ⟨Or.inr ⟨_, rfl⟩, ?_⟩ | refine ⟨fun _ => ?_, fun h => absurd h (by decide)⟩ | refine ⟨fun h => absurd h (by decide), fun _ => ?_⟩)
    refine mg_m_mono (c56a d (w3.n hN) w2 b1 (Int32.ofNat o)) (by omega) ?_
    rintro o2 q2 G2 ⟨rfl, rfl, rfl⟩
    exact (hZ0.t w1 w2 w3).x (A := A) _ _
  | true =>
  rw [b1, if_pos rfl] at h
  by_cases h20 : o = 20
  · rw [if_pos h20] at h
    cases h
    subst h20
    refine mg_me [] 60 my_55 ms_55 (Nat.le_of_ble_eq_true rfl) ?_
    repeat (first | refine ⟨_, mg_Fs rfl rfl, ?_⟩ | refine ⟨Or.inl rfl, ?_⟩ | refine ⟨Or.inr ⟨_, rfl⟩, ?_⟩ | refine ⟨fun _ => ?_, fun h => absurd h (by decide)⟩ | refine ⟨fun h => absurd h (by decide), fun _ => ?_⟩)
    refine mg_m_mono (c93 d hN hE hI.2.2.2.1 hk.1) (by omega) ?_
    rintro o1 q1 G1 ⟨rfl, rfl, w1, w2, w3⟩
    repeat (first | refine ⟨_, mg_Fs rfl rfl, ?_⟩ | refine ⟨Or.inl rfl, ?_⟩ | refine ⟨Or.inr ⟨_, rfl⟩, ?_⟩ | refine ⟨fun _ => ?_, fun h => absurd h (by decide)⟩ | refine ⟨fun h => absurd h (by decide), fun _ => ?_⟩)
    refine mg_m_mono (c56b d (w3.n hN) w2 b1) (by omega) ?_
    rintro o2 q2 G2 ⟨rfl, rfl, rfl⟩
    exact (hZ0.t w1 w2 w3).x (A := A) _ _
  rw [if_neg h20] at h
  have k1 : ∀ (G1 : mg_G) q row' r', q ≤ l.length → pc ≤ q → row' ≤ row + 2 → yI G1 A l q pc → zP A l n 0 none (o + 1) q = some r' → mg_m (mg_KC scr t) (d + 8 * (20 - (o + 1)) + (7 - 0) + 12) 50 [.ref 3, .int 0, .int (Int32.ofNat o + Int32.ofInt 1), .int (Int32.ofNat row')] G1 (yQ G1 A l row' pc r') := fun G1 q row' r' h1 h2 h3 h4 g => by
    rw [mg_inc o]
    exact ih.1 0 (o + 1) row' q pc r' G1 (by omega) (by omega) h1 (by omega) h2 h4 g d
  have st : ∀ Q : mg_Q, (∀ G1, yZ G G1 l row pc pc (k_E l (k_E l p)) → mg_m (mg_KC scr t) (d + 8 * (20 - (o + 1)) + (7 - 0) + 12) 50 [.ref 3, .int 0, .int (Int32.ofNat o + Int32.ofInt 1), .int (Int32.ofNat row)] G1 (fun o2 k2 G2 => (o2 = .inl none ∧ k2 = 0 ∧ mg_wp (mg_KC scr t) mc_55 (d + 8 * (20 - o) + 11) 21 [some (.ref 3), some (.int (Int32.ofNat o)), some (.int (Int32.ofNat row))] [] G2 Q) ∨ ∃ E, o2 = .inr E ∧ Q (.inr E) k2 G2)) → mg_m (mg_KC scr t) ((d + 8 * (20 - o) + 11) + 1) 55 [.ref 3, .int (Int32.ofNat o), .int (Int32.ofNat row)] G Q := fun Q g => by
    refine mg_me [21] 60 my_55 ms_55 (Nat.le_of_ble_eq_true rfl) ?_
    repeat (first | refine ⟨_, mg_Fs rfl rfl, ?_⟩ | refine ⟨Or.inl rfl, ?_⟩ | refine ⟨Or.inr ⟨_, rfl⟩, ?_⟩ | refine ⟨fun _ => ?_, fun h => absurd h (by decide)⟩ | refine ⟨fun h => absurd h (by decide), fun _ => ?_⟩)
    refine mg_m_mono (c93 d hN hE hI.2.2.2.1 hk.1) (by omega) ?_
    rintro o1 q1 G1 ⟨rfl, rfl, w1, w2, w3⟩
    have hZ1 := hZ0.t w1 w2 w3
    repeat (first | refine ⟨_, mg_Fs rfl rfl, ?_⟩ | refine ⟨Or.inl rfl, ?_⟩ | refine ⟨Or.inr ⟨_, rfl⟩, ?_⟩ | refine ⟨fun _ => ?_, fun h => absurd h (by decide)⟩ | refine ⟨fun h => absurd h (by decide), fun _ => ?_⟩)
    refine mg_m_mono (c56c d (w3.n hN) w1 w2 hE b1 (by omega)) (by omega) ?_
    rintro o2 q2 G2 ⟨rfl, rfl, w4, w5, w6⟩
    repeat (first | refine ⟨_, mg_Fs rfl rfl, ?_⟩ | refine ⟨Or.inl rfl, ?_⟩ | refine ⟨Or.inr ⟨_, rfl⟩, ?_⟩ | refine ⟨fun _ => ?_, fun h => absurd h (by decide)⟩ | refine ⟨fun h => absurd h (by decide), fun _ => ?_⟩)
    refine mg_m_mono (g G2 (hZ1.t w4 w5 w6)) (by omega) ?_
    rintro o2 k2 G3 (⟨rfl, rfl, w⟩ | ⟨E, rfl, w⟩)
    · exact w
    · exact w
  refine st _ (fun G1 hZ1 => ?_)
  rcases zB_s h with ⟨e, g1, rfl⟩ | ⟨c, q1, g1, h⟩
  · refine mg_m_mono (k1 G1 _ row _ hEE (by omega) (by omega) (hZ1.I hI) g1) (by omega) ?_
    rintro o2 q2 G2 w
    obtain ⟨rfl, rfl, w2⟩ := hZ1.e (row' := row) w
    exact Or.inr ⟨_, rfl, w2⟩
  obtain ⟨m1, m2, m3, m4⟩ := zP_okn hW hEE g1
  have f1 := k_E_le m2
  have f2 := k_E_ge l q1
  have f3 := k_S_ge l q1
  refine mg_m_mono (k1 G1 _ row _ hEE (by omega) (by omega) (hZ1.I hI) g1) (by omega) ?_
  rintro o2 q2 G2 w
  obtain ⟨rfl, rfl, hZ2, hc2, -⟩ := hZ1.q w (Nat.le_refl _) (Nat.le_refl _)
  refine Or.inl ⟨rfl, rfl, ?_⟩
  have hI2 := hZ2.I hI
  clear st w
  cases b2 : k_is l q1 44 with
  | false =>
    rw [b2, if_neg (by decide)] at h
    cases h
    refine mg_go [] 60 21 ms_55 ?_
    repeat (first | refine ⟨_, mg_Fs rfl rfl, ?_⟩ | refine ⟨Or.inl rfl, ?_⟩ | refine ⟨Or.inr ⟨_, rfl⟩, ?_⟩ | refine ⟨fun _ => ?_, fun h => absurd h (by decide)⟩ | refine ⟨fun h => absurd h (by decide), fun _ => ?_⟩)
    refine mg_m_mono (c46x d hI2.2.2.1 hI2.2.2.2.2.1 (c := 44) (by decide) b2) (by omega) ?_
    rintro o1 q1 G1 ⟨rfl, rfl, rfl⟩
    exact hZ2.x (A := A) _ _
  | true =>
  rw [b2, if_pos rfl] at h
  have hlt2 := k_is_E b2
  have st : ∀ Q : mg_Q, (∀ G3, yZ G G3 l row pc pc (k_E l q1) → cRow G3 28 row (a_wds (aV A)) c → mg_m (mg_KC scr t) (d + 8 * (20 - (o + 1)) + (7 - 0) + 12) 50 [.ref 3, .int 0, .int (Int32.ofNat o + Int32.ofInt 1), .int (Int32.ofNat (row + 1))] G3 (fun o2 k2 G2 => (o2 = .inl none ∧ k2 = 0 ∧ mg_wp (mg_KC scr t) mc_55 (d + 8 * (20 - o) + 11) 38 [some (.ref 3), some (.int (Int32.ofNat o)), some (.int (Int32.ofNat row))] [] G2 Q) ∨ ∃ E, o2 = .inr E ∧ Q (.inr E) k2 G2)) → mg_wp (mg_KC scr t) mc_55 (d + 8 * (20 - o) + 11) 21 [some (.ref 3), some (.int (Int32.ofNat o)), some (.int (Int32.ofNat row))] [] G2 Q := fun Q g => by
    rw [← mg_inc row] at g
    refine mg_go [38] 60 21 ms_55 ?_
    repeat (first | refine ⟨_, mg_Fs rfl rfl, ?_⟩ | refine ⟨Or.inl rfl, ?_⟩ | refine ⟨Or.inr ⟨_, rfl⟩, ?_⟩ | refine ⟨fun _ => ?_, fun h => absurd h (by decide)⟩ | refine ⟨fun h => absurd h (by decide), fun _ => ?_⟩)
    refine mg_m_mono (c46y d hI2.2.2.1 hZ2.2.1 hI2.2.2.2.2.1 m2 (c := 44) (by decide) b2) (by omega) ?_
    rintro o1 q1' G3 ⟨rfl, rfl, w1, w2, w3⟩
    repeat (first | refine ⟨_, mg_Fs rfl rfl, ?_⟩ | refine ⟨Or.inl rfl, ?_⟩ | refine ⟨Or.inr ⟨_, rfl⟩, ?_⟩ | refine ⟨fun _ => ?_, fun h => absurd h (by decide)⟩ | refine ⟨fun h => absurd h (by decide), fun _ => ?_⟩)
    refine mg_m_mono (g G3 (hZ2.t w1 w2 w3) ((yK.tk (row := row + 1) (pc := pc) w3).row hc2 (by omega) h4)) (by omega) ?_
    rintro o2 k2 G4 (⟨rfl, rfl, w⟩ | ⟨E, rfl, w⟩)
    · exact w
    · exact w
  refine st _ (fun G3 hZ3 hc3 => ?_)
  rcases zB_s h with ⟨e, g3, rfl⟩ | ⟨x, q2, g3, h⟩
  · refine mg_m_mono (k1 G3 _ (row + 1) _ f1 (by omega) (by omega) (hZ3.I hI) g3) (by omega) ?_
    rintro o2 q2 G2 w
    obtain ⟨rfl, rfl, w2⟩ := hZ3.e (row' := row + 1) w
    exact Or.inr ⟨_, rfl, w2⟩
  obtain ⟨m5, m6, m7, m8⟩ := zP_okn hW f1 g3
  have f4 := k_E_le m6
  have f5 := k_E_ge l q2
  have f6 := k_S_ge l q2
  refine mg_m_mono (k1 G3 _ (row + 1) _ f1 (by omega) (by omega) (hZ3.I hI) g3) (by omega) ?_
  rintro o2 q2' G4 w
  obtain ⟨rfl, rfl, hZ4, hx4, hK4⟩ := hZ3.q w (by omega) (Nat.le_refl _)
  have hc4 := hK4.row hc3 (by omega) h4
  refine Or.inl ⟨rfl, rfl, ?_⟩
  have hI4 := hZ4.I hI
  clear st w
  cases b3 : k_is l q2 44 with
  | false =>
    rw [b3, if_neg (by decide)] at h
    cases h
    refine mg_go [] 60 38 ms_55 ?_
    repeat (first | refine ⟨_, mg_Fs rfl rfl, ?_⟩ | refine ⟨Or.inl rfl, ?_⟩ | refine ⟨Or.inr ⟨_, rfl⟩, ?_⟩ | refine ⟨fun _ => ?_, fun h => absurd h (by decide)⟩ | refine ⟨fun h => absurd h (by decide), fun _ => ?_⟩)
    refine mg_m_mono (c46x d hI4.2.2.1 hI4.2.2.2.2.1 (c := 44) (by decide) b3) (by omega) ?_
    rintro o1 q1 G1 ⟨rfl, rfl, rfl⟩
    exact hZ4.x (A := A) _ _
  | true =>
  rw [b3, if_pos rfl] at h
  have hlt3 := k_is_E b3
  have st : ∀ Q : mg_Q, (∀ G5, yZ G G5 l row pc pc (k_E l q2) → cRow G5 28 row (a_wds (aV A)) c → cRow G5 28 (row + 1) (a_wds (aV A)) x → mg_m (mg_KC scr t) (d + 8 * (20 - (o + 1)) + (7 - 0) + 12) 50 [.ref 3, .int 0, .int (Int32.ofNat o + Int32.ofInt 1), .int (Int32.ofNat (row + 2))] G5 (fun o2 k2 G2 => (o2 = .inl none ∧ k2 = 0 ∧ mg_wp (mg_KC scr t) mc_55 (d + 8 * (20 - o) + 11) 55 [some (.ref 3), some (.int (Int32.ofNat o)), some (.int (Int32.ofNat row))] [] G2 Q) ∨ ∃ E, o2 = .inr E ∧ Q (.inr E) k2 G2)) → mg_wp (mg_KC scr t) mc_55 (d + 8 * (20 - o) + 11) 38 [some (.ref 3), some (.int (Int32.ofNat o)), some (.int (Int32.ofNat row))] [] G4 Q := fun Q g => by
    rw [show Int32.ofNat (row + 2) = Int32.ofNat row + Int32.ofInt 2 from Int32.ofNat_add row 2] at g
    refine mg_go [55] 60 38 ms_55 ?_
    repeat (first | refine ⟨_, mg_Fs rfl rfl, ?_⟩ | refine ⟨Or.inl rfl, ?_⟩ | refine ⟨Or.inr ⟨_, rfl⟩, ?_⟩ | refine ⟨fun _ => ?_, fun h => absurd h (by decide)⟩ | refine ⟨fun h => absurd h (by decide), fun _ => ?_⟩)
    refine mg_m_mono (c46y d hI4.2.2.1 hZ4.2.1 hI4.2.2.2.2.1 m6 (c := 44) (by decide) b3) (by omega) ?_
    rintro o1 q1' G5 ⟨rfl, rfl, w1, w2, w3⟩
    repeat (first | refine ⟨_, mg_Fs rfl rfl, ?_⟩ | refine ⟨Or.inl rfl, ?_⟩ | refine ⟨Or.inr ⟨_, rfl⟩, ?_⟩ | refine ⟨fun _ => ?_, fun h => absurd h (by decide)⟩ | refine ⟨fun h => absurd h (by decide), fun _ => ?_⟩)
    refine mg_m_mono (g G5 (hZ4.t w1 w2 w3) ((yK.tk (row := row + 1) (pc := pc) w3).row hc4 (by omega) h4) ((yK.tk (row := row + 2) (pc := pc) w3).row hx4 (by omega) h4)) (by omega) ?_
    rintro o2 k2 G6 (⟨rfl, rfl, w⟩ | ⟨E, rfl, w⟩)
    · exact w
    · exact w
  refine st _ (fun G5 hZ5 hc5 hx5 => ?_)
  rcases zB_s h with ⟨e, g5, rfl⟩ | ⟨y, q3, g5, h⟩
  · refine mg_m_mono (k1 G5 _ (row + 2) _ f4 (by omega) (by omega) (hZ5.I hI) g5) (by omega) ?_
    rintro o2 q2 G2 w
    obtain ⟨rfl, rfl, w2⟩ := hZ5.e (row' := row + 2) w
    exact Or.inr ⟨_, rfl, w2⟩
  obtain ⟨m9, m10, m11, m12⟩ := zP_okn hW f4 g5
  refine mg_m_mono (k1 G5 _ (row + 2) _ f4 (by omega) (by omega) (hZ5.I hI) g5) (by omega) ?_
  rintro o2 q2' G6 w
  obtain ⟨rfl, rfl, hZ6, hy6, hK6⟩ := hZ5.q w (by omega) (Nat.le_refl _)
  have hc6 := hK6.row hc5 (by omega) h4
  have hx6 := hK6.row hx5 (by omega) h4
  refine Or.inl ⟨rfl, rfl, ?_⟩
  have hI6 := hZ6.I hI
  clear st w
  cases b4 : k_is l q3 41 with
  | false =>
    rw [b4, if_neg (by decide)] at h
    cases h
    refine mg_go [] 60 55 ms_55 ?_
    repeat (first | refine ⟨_, mg_Fs rfl rfl, ?_⟩ | refine ⟨Or.inl rfl, ?_⟩ | refine ⟨Or.inr ⟨_, rfl⟩, ?_⟩ | refine ⟨fun _ => ?_, fun h => absurd h (by decide)⟩ | refine ⟨fun h => absurd h (by decide), fun _ => ?_⟩)
    refine mg_m_mono (c46x d hI6.2.2.1 hI6.2.2.2.2.1 (c := 41) (by decide) b4) (by omega) ?_
    rintro o1 q1 G1 ⟨rfl, rfl, rfl⟩
    exact hZ6.x (A := A) _ _
  | true =>
  rw [b4, if_pos rfl] at h
  cases h
  refine mg_go [] 60 55 ms_55 ?_
  repeat (first | refine ⟨_, mg_Fs rfl rfl, ?_⟩ | refine ⟨Or.inl rfl, ?_⟩ | refine ⟨Or.inr ⟨_, rfl⟩, ?_⟩ | refine ⟨fun _ => ?_, fun h => absurd h (by decide)⟩ | refine ⟨fun h => absurd h (by decide), fun _ => ?_⟩)
  refine mg_m_mono (c46y d hI6.2.2.1 hZ6.2.1 hI6.2.2.2.2.1 m10 (c := 41) (by decide) b4) (by omega) ?_
  rintro o1 q1' G7 ⟨rfl, rfl, w1, w2, w3⟩
  have hZ7 := hZ6.t w1 w2 w3
  have hK7 : yK G6 G7 (row + 3) pc := yK.tk w3
  have hc7 := hK7.row hc6 (by omega) h4
  have hx7 := hK7.row hx6 (by omega) h4
  have hy7 := hK7.row hy6 (by omega) h4
  have k3 := c85 (K := mg_KC scr t) (G := G7) d row row (row + 1) (row + 2) kc_t3 (hZ7.I hI).2.2.2.2.2.1 h4 (by omega) (by omega) (by omega) (by omega)
  rw [show Int32.ofNat (row + 2) = Int32.ofNat row + Int32.ofInt 2 from Int32.ofNat_add row 2, ← mg_inc row] at k3
  repeat (first | refine ⟨_, mg_Fs rfl rfl, ?_⟩ | refine ⟨Or.inl rfl, ?_⟩ | refine ⟨Or.inr ⟨_, rfl⟩, ?_⟩ | refine ⟨fun _ => ?_, fun h => absurd h (by decide)⟩ | refine ⟨fun h => absurd h (by decide), fun _ => ?_⟩)
  refine mg_cn (k3) (by omega) ?_
  refine (hZ7.c (Nat.le_refl _)).Q (fun w hw => ?_)
  rw [cW_in _ _ _ _ _ _ hw]
  show _ = a_wd (a_tb4 _) w
  rw [a_wd4 _ w (by omega), hc7 w hw, hx7 w hw, hy7 w hw]
end KC
