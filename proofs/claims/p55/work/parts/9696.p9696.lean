section KC
variable {scr : Nat × (Nat → Int32)} {t : List mg_S} {G : mg_G} {S : a_S} {A : a_A}
theorem cUn.fr2 {G G' : mg_G} {U : List a_A} {p : Nat → Prop} (h : cUn G U) (hf : mg_fr p G G') (hp : ∀ a, a = 38 ∨ a = 39 ∨ (42 ≤ a ∧ a < 106) → ¬ p a) : cUn G' U := by
  obtain ⟨nx, h1, h2, h3, h4, h5, h6⟩ := h
  have e := hf 38 (hp 38 (by decide))
  refine ⟨nx, h1, by rw [e.2.2.2.2]; exact h2, by rw [e.2.2.2.2]; exact h3, h4, fun i hi => by rw [(hf 39 (hp 39 (by decide))).2.2.2.1]; exact h5 i hi, fun i B hB => ⟨(h6 i B hB).1.fr hf (fun a ha => hp a ?_), (h6 i B hB).2⟩⟩
  unfold kQ at ha
  have := Nat.mod_lt (nx + 8 - U.length + i) (show 0 < 8 by decide)
  omega
theorem c27 (d : Nat) {U : List a_A} (hU : cUn G U) {B : a_A} (hB : U.getLast? = some B) : mg_m (mg_KC scr t) (d + 1) 27 [.ref 38] G (fun o q G' => ∃ r : Nat, r < 8 ∧ o = .inl (some (.ref (42 + 8 * r))) ∧ q = 0 ∧ cS G' (42 + 8 * r) B ∧ aW B ∧ cUn G' U.dropLast ∧ mg_fr (fun a => a = 38) G G') := by
  obtain ⟨nx, h1, h2, h3, h4, h5, h6⟩ := hU
  have hl : 1 ≤ U.length := by
    cases U with
    | nil => simp at hB
    | cons a l => exact Nat.le_add_left 1 l.length
  have hm := mg_rem7 nx h1
  have hB2 : U[U.length - 1]? = some B := by rw [← List.getLast?_eq_getElem?]; exact hB
  refine mg_me [] 60 my_27 ms_27 (Nat.le_of_ble_eq_true rfl) ?_
  refine ⟨_, mg_Fe h2 rfl rfl, rfl, _, rfl, rfl, ?_⟩
  have f1 : mg_fr (fun a => a = 38) G (mg_sF G 38 1 (.int (Int32.ofNat ((nx + 7) % 8)))) := mg_fr.sF _ _ _ rfl
  have g1 := mg_sF_at G 38 1 (.int (Int32.ofNat ((nx + 7) % 8)))
  have g2 : (mg_sF G 38 1 (.int (Int32.ofNat ((nx + 7) % 8)))).2.2.2.2 38 2 = .int (Int32.ofNat U.length) := (mg_sF_ne _ _ (by decide)).trans h3
  rw [show ((G.1, G.2.1, G.2.2.1, G.2.2.2.1, mg_u2 G.2.2.2.2 38 1 (.int ((fun x y => x - x / y * y) ((fun x y => x - y) ((fun x y => x + y) (Int32.ofNat nx) (Int8.ofInt 8).toInt32) (Int32.ofInt 1)) (Int8.ofInt 8).toInt32))) : mg_G) = mg_sF G 38 1 (.int (Int32.ofNat ((nx + 7) % 8))) from congrArg (fun z => mg_sF G 38 1 (.int z)) hm]
  generalize hG1 : mg_sF G 38 1 (.int (Int32.ofNat ((nx + 7) % 8))) = G1 at f1 g1 g2
  refine ⟨_, mg_Fe g2 rfl rfl, rfl, _, rfl, rfl, ?_⟩
  have f2 : mg_fr (fun a => a = 38) G (mg_sF G1 38 2 (.int (Int32.ofNat (U.length - 1)))) := f1.tr (mg_fr.sF _ _ _ rfl)
  have k1 : (mg_sF G1 38 2 (.int (Int32.ofNat (U.length - 1)))).2.2.2.2 38 1 = .int (Int32.ofNat ((nx + 7) % 8)) := (mg_sF_ne _ _ (by decide)).trans g1
  have k2 := mg_sF_at G1 38 2 (.int (Int32.ofNat (U.length - 1)))
  have hd : Int32.ofNat U.length - Int32.ofInt 1 = Int32.ofNat (U.length - 1) := by
    have := mg_dec (U.length - 1)
    rwa [Nat.sub_add_cancel hl] at this
  rw [show ((G1.1, G1.2.1, G1.2.2.1, G1.2.2.2.1, mg_u2 G1.2.2.2.2 38 2 (.int ((fun x y => x - y) (Int32.ofNat U.length) (Int32.ofInt 1)))) : mg_G) = mg_sF G1 38 2 (.int (Int32.ofNat (U.length - 1))) from congrArg (fun z => mg_sF G1 38 2 (.int z)) hd]
  generalize hG2 : mg_sF G1 38 2 (.int (Int32.ofNat (U.length - 1))) = G2 at f2 k1 k2
  have hr : (nx + 7) % 8 < 8 := Nat.mod_lt _ (by decide)
  have hA : ∀ i, i < 8 → G2.2.2.2.1 39 i = some (42 + 8 * i) := fun i hi => by rw [(f2 39 (by decide)).2.2.2.1]; exact h5 i hi
  have hold := h6 (U.length - 1) B hB2
  rw [a_ring6 h1 h4 hl] at hold
  refine ⟨_, mg_Fs rfl rfl, _, mg_Fe k1 rfl rfl, _, _, (nx + 7) % 8, _, mg_Ar rfl (by decide), mg_ixN (by omega), hr, hA _ hr, (nx + 7) % 8, hr, rfl, rfl, hold.1.fr f2 (fun a ha => by unfold kQ at ha; omega), hold.2, ⟨(nx + 7) % 8, hr, k1, by rw [List.length_dropLast]; exact k2, by rw [List.length_dropLast]; omega, hA, fun i C hC => ?_⟩, f2⟩
  have hi := (List.getElem?_eq_some_iff.mp hC).1
  rw [List.length_dropLast] at hi ⊢
  rw [List.getElem?_dropLast, if_pos hi] at hC
  rw [a_ring5 h1 h4 hl hi]
  exact ⟨(h6 i C hC).1.fr f2 (fun a ha => by unfold kQ at ha; omega), (h6 i C hC).2⟩
theorem c28 (d : Nat) {U : List a_A} (hU : cUn G U) : mg_m (mg_KC scr t) (d + 1) 28 [.ref 38] G (fun o q G' => o = .inl none ∧ q = 0 ∧ cUn G' [] ∧ mg_fr (fun a => a = 38) G G') := by
  obtain ⟨nx, h1, h2, h3, h4, h5, h6⟩ := hU
  have f1 : mg_fr (fun a => a = 38) G (mg_sF G 38 2 (.int (Int32.ofInt 0))) := mg_fr.sF _ _ _ rfl
  refine mg_me [] 60 my_28 ms_28 (Nat.le_of_ble_eq_true rfl) ?_
  exact ⟨rfl, _, rfl, rfl, rfl, rfl, ⟨nx, h1, (mg_sF_ne _ _ (by decide)).trans h2, mg_sF_at _ _ _ _, Nat.zero_le _, fun i hi => by rw [show (mg_sF G 38 2 (.int (Int32.ofInt 0))).2.2.2.1 39 = G.2.2.2.1 39 from (f1 39 (by decide)).2.2.2.1]; exact h5 i hi, fun i B hB => absurd hB (by simp)⟩, f1⟩
theorem c29 (d : Nat) : mg_m (mg_KC scr t) (d + 1) 29 [.ref 38] G (fun o q G' => o = .inl none ∧ q = 0 ∧ G'.1 41 0 = 0 ∧ G'.1 41 1 = 0 ∧ mg_fr (fun a => a = 41) G G') := by
  refine mg_me [] 60 my_29 ms_29 (Nat.le_of_ble_eq_true rfl) ?_
  repeat (first | refine ⟨_, mg_Fs rfl rfl, ?_⟩ | refine ⟨Or.inl rfl, ?_⟩ | refine ⟨Or.inr ⟨_, rfl⟩, ?_⟩ | refine ⟨fun _ => ?_, fun h => absurd h (by decide)⟩ | refine ⟨fun h => absurd h (by decide), fun _ => ?_⟩)
  refine ⟨3, 2, 0, rfl, mg_ixN (by decide), by decide, Or.inr rfl, ?_⟩
  repeat (first | refine ⟨_, mg_Fs rfl rfl, ?_⟩ | refine ⟨Or.inl rfl, ?_⟩ | refine ⟨Or.inr ⟨_, rfl⟩, ?_⟩ | refine ⟨fun _ => ?_, fun h => absurd h (by decide)⟩ | refine ⟨fun h => absurd h (by decide), fun _ => ?_⟩)
  repeat (first | refine ⟨_, mg_Fs rfl rfl, ?_⟩ | refine ⟨Or.inl rfl, ?_⟩ | refine ⟨Or.inr ⟨_, rfl⟩, ?_⟩ | refine ⟨fun _ => ?_, fun h => absurd h (by decide)⟩ | refine ⟨fun h => absurd h (by decide), fun _ => ?_⟩)
  refine ⟨3, 2, 1, rfl, mg_ixE rfl (by decide), by decide, Or.inr rfl, ?_⟩
  repeat (first | refine ⟨_, mg_Fs rfl rfl, ?_⟩ | refine ⟨Or.inl rfl, ?_⟩ | refine ⟨Or.inr ⟨_, rfl⟩, ?_⟩ | refine ⟨fun _ => ?_, fun h => absurd h (by decide)⟩ | refine ⟨fun h => absurd h (by decide), fun _ => ?_⟩)
  refine ⟨rfl, rfl, ?_, ?_, ?_⟩
  · exact (mg_sI_ne _ _ _ _ (show (0 : Nat) ≠ 1 by decide)).trans (mg_sI_eq _ _ _ _)
  · exact mg_sI_eq _ _ _ _
  · exact (mg_fr.sI (p := fun a => a = 41) _ _ _ rfl).tr (mg_fr.sI _ _ _ rfl)
/-- another state stands, with the past U -/
theorem cT.st (hT : cT G S) {G' : mg_G} {B : a_A} {U : List a_A} {p : Nat → Prop} (hF : mg_fr p G G') (hp : ∀ a, p a → a < 40 ∨ (42 ≤ a ∧ a < 106) ∨ (122 ≤ a ∧ a < 146)) (hp2 : ¬ p 1 ∧ ¬ p 2 ∧ ¬ p 3) (hS : cS G' 30 B) (hW : aW B) (hU : cUn G' U) (h0 : G'.2.2.2.2 0 7 = .int 0) : cT G' (B, U, S.2.2) := by
  obtain ⟨-, -, -, g4, g5, g6, g7, -⟩ := hT
  have hn : ∀ a, ¬ (a < 40 ∨ (42 ≤ a ∧ a < 106) ∨ (122 ≤ a ∧ a < 146)) → ¬ p a := fun a h q => h (hp a q)
  have e3 := (hF 3 hp2.2.2).2.2.2.2
  exact ⟨hS, hW, hU, g4.fr hF (fun a ha => hn a (by omega)), g5.fr hF hp2.1 hp2.2.1, ⟨by rw [e3]; exact g6.1, by rw [e3]; exact g6.2⟩, g7.fr hF (hn _ (by decide)) (hn _ (by decide)), Or.inl h0⟩
theorem c150 (d : Nat) (hT : cT G S) : mg_m (mg_KC scr t) (d + 20) 150 [.ref 0] G (cAp G (ex1 xS) (p321 S)) := by
  unfold p321 cAp
  have hU := hT.2.2.1
  obtain ⟨nx, h1, h2, h3, h4, h5, h6⟩ := id hU
  cases hB : (sU S).getLast? with
  | none =>
    have e : sU S = [] := List.getLast?_eq_none_iff.mp hB
    rw [e] at h3
    refine mg_me [] 60 my_150 ms_150 (Nat.le_of_ble_eq_true rfl) ?_
    repeat (first | refine ⟨_, mg_Fs rfl rfl, ?_⟩ | refine ⟨Or.inl rfl, ?_⟩ | refine ⟨Or.inr ⟨_, rfl⟩, ?_⟩ | refine ⟨fun _ => ?_, fun h => absurd h (by decide)⟩ | refine ⟨fun h => absurd h (by decide), fun _ => ?_⟩)
    refine ⟨_, mg_Fe h3 rfl rfl, fun h => absurd rfl h, fun _ => ⟨Nat.le_of_ble_eq_true rfl, cA_x hT (by decide) rfl⟩⟩
  | some B =>
    have hl : 1 ≤ (sU S).length := by
      cases e : sU S with
      | nil => rw [e] at hB; simp at hB
      | cons a l => exact Nat.le_add_left 1 l.length
    refine mg_me [] 60 my_150 ms_150 (Nat.le_of_ble_eq_true rfl) ?_
    repeat (first | refine ⟨_, mg_Fs rfl rfl, ?_⟩ | refine ⟨Or.inl rfl, ?_⟩ | refine ⟨Or.inr ⟨_, rfl⟩, ?_⟩ | refine ⟨fun _ => ?_, fun h => absurd h (by decide)⟩ | refine ⟨fun h => absurd h (by decide), fun _ => ?_⟩)
    refine ⟨_, mg_Fe h3 rfl rfl, fun _ => ?_, fun h => ?_⟩
    · repeat (first | refine ⟨_, mg_Fs rfl rfl, ?_⟩ | refine ⟨Or.inl rfl, ?_⟩ | refine ⟨Or.inr ⟨_, rfl⟩, ?_⟩ | refine ⟨fun _ => ?_, fun h => absurd h (by decide)⟩ | refine ⟨fun h => absurd h (by decide), fun _ => ?_⟩)
      refine mg_m_mono (c27 d hU hB) (by omega) ?_
      rintro o q G1 ⟨r, hr, rfl, rfl, hS1, hW1, hU1, hF1⟩
      repeat (first | refine ⟨_, mg_Fs rfl rfl, ?_⟩ | refine ⟨Or.inl rfl, ?_⟩ | refine ⟨Or.inr ⟨_, rfl⟩, ?_⟩ | refine ⟨fun _ => ?_, fun h => absurd h (by decide)⟩ | refine ⟨fun h => absurd h (by decide), fun _ => ?_⟩)
      refine mg_m_mono (c164 d (kc_s3 r (by omega)) (by omega) hS1 hW1) (by omega) ?_
      rintro o q G2 ⟨rfl, rfl, hS2, h0, hF2⟩
      have hU2 : cUn G2 (sU S).dropLast := hU1.fr hF2 (fun a ha q => by unfold kQ at q; omega)
      obtain ⟨nx2, -, -, k3, -⟩ := id hU2
      rw [List.length_dropLast] at k3
      have hF : mg_fr (fun a => a = 38 ∨ a = 0 ∨ kQ 30 a) G G2 := (hF1.mono (fun a ha => Or.inl ha)).tr (hF2.mono (fun a ha => Or.inr ha))
      repeat (first | refine ⟨_, mg_Fs rfl rfl, ?_⟩ | refine ⟨Or.inl rfl, ?_⟩ | refine ⟨Or.inr ⟨_, rfl⟩, ?_⟩ | refine ⟨fun _ => ?_, fun h => absurd h (by decide)⟩ | refine ⟨fun h => absurd h (by decide), fun _ => ?_⟩)
      refine ⟨_, mg_Fe k3 rfl rfl, ?_⟩
      exact ⟨Or.inl rfl, cA_v (hT.st hF (fun a ha => by unfold kQ at ha; omega) ⟨by unfold kQ; omega, by unfold kQ; omega, by unfold kQ; omega⟩ hS2 hW1 hU2 h0) (hF.mono (fun a ha => by unfold kQ at ha; show a < 148; omega)) rfl⟩
    · exact absurd h (fun q => absurd (mg_eqN (b := 0) (by omega) (by decide) |>.mp q) (by omega))
end KC
