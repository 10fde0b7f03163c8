def cG0 (G : mg_G) : Prop := cIn G [] ∧ G.2.2.2.2 38 1 = .int 0 ∧ G.2.2.2.2 38 2 = .int 0 ∧ (∀ i, i < 8 → G.2.2.2.1 39 i = some (42 + 8 * i)) ∧ (∀ s, s < 2 → G.2.2.2.1 40 s = some (42 + 8 * (8 + s))) ∧ (∀ s, s < 2 → G.1 41 s = 0) ∧ G.2.2.2.2 146 1 = .int 0 ∧ G.2.2.2.2 0 7 = .int 0
def s_0 (A : a_A) : a_S := (A, [], fun _ => none, [], 0, Int32.ofInt (-1), [])
section KC
variable {scr : Nat × (Nat → Int32)} {t : List mg_S} {G : mg_G}
theorem s103 (d : Nat) {x : a_A × Nat} (hx : tY (k_str 0) = .inr x) (h : cG0 G) : mg_wp (mg_KC scr t) mc_103 (d + 300) 81 [some (.ref 0)] [] G (fun o q G' => o = .inl none ∧ q = 0 ∧ cT G' (s_0 x.1)) := by
  obtain ⟨h1, h2, h3, h4, h5, h6, h7, h8⟩ := h
  refine mg_go [] 60 81 ms_103 ?_
  repeat (first | refine ⟨_, mg_Fs rfl rfl, ?_⟩ | refine ⟨Or.inl rfl, ?_⟩ | refine ⟨Or.inr ⟨_, rfl⟩, ?_⟩ | refine ⟨fun _ => ?_, fun h => absurd h (by decide)⟩ | refine ⟨fun h => absurd h (by decide), fun _ => ?_⟩)
  refine mg_m_mono (c31z d h1) (by omega) ?_
  rintro o q G1 ⟨rfl, rfl, hI1, hF1⟩
  repeat (first | refine ⟨_, mg_Fs rfl rfl, ?_⟩ | refine ⟨Or.inl rfl, ?_⟩ | refine ⟨Or.inr ⟨_, rfl⟩, ?_⟩ | refine ⟨fun _ => ?_, fun h => absurd h (by decide)⟩ | refine ⟨fun h => absurd h (by decide), fun _ => ?_⟩)
  refine mg_m_mono (c36 d hI1 (r := .inr x) hx.symm) (by omega) ?_
  rintro o q G2 ⟨rfl, rfl, hF2, hS2, hW2, h26, h27⟩
  repeat (first | refine ⟨_, mg_Fs rfl rfl, ?_⟩ | refine ⟨Or.inl rfl, ?_⟩ | refine ⟨Or.inr ⟨_, rfl⟩, ?_⟩ | refine ⟨fun _ => ?_, fun h => absurd h (by decide)⟩ | refine ⟨fun h => absurd h (by decide), fun _ => ?_⟩)
  refine ⟨rfl, _, rfl, rfl, ?_⟩
  have hF3 : mg_fr (fun a => a = 1) G2 (mg_sF G2 1 1 (.int 0)) := mg_fr.sF _ _ _ rfl
  have hS3 : cS (mg_sF G2 1 1 (.int 0)) 4 x.1 := hS2.fr hF3 (fun a ha => by unfold kQ at ha; omega)
  repeat (first | refine ⟨_, mg_Fs rfl rfl, ?_⟩ | refine ⟨Or.inl rfl, ?_⟩ | refine ⟨Or.inr ⟨_, rfl⟩, ?_⟩ | refine ⟨fun _ => ?_, fun h => absurd h (by decide)⟩ | refine ⟨fun h => absurd h (by decide), fun _ => ?_⟩)
  refine mg_m_mono (c64A d kc_s1 kc_s2 (Or.inr (by decide)) hS3 hW2) (by omega) ?_
  rintro o q G4 ⟨rfl, rfl, hS4, hF4⟩
  have f : mg_fr (fun a => a = 1 ∨ a = 2 ∨ (3 ≤ a ∧ a ≤ 29) ∨ kQ 30 a) G G4 :=
    (((hF1.mono (fun a ha => by omega)).tr (hF2.mono (fun a ha => Or.inr (Or.inr (Or.inl ha))))).tr (hF3.mono (fun a ha => Or.inl ha))).tr (hF4.mono (fun a ha => Or.inr (Or.inr (Or.inr ha))))
  have n : ∀ a, 38 ≤ a ∨ a = 0 → ¬ (a = 1 ∨ a = 2 ∨ (3 ≤ a ∧ a ≤ 29) ∨ kQ 30 a) := fun a ha => by unfold kQ; omega
  have e := fun a ha => f a (n a ha)
  have n3 : ¬ kQ 30 3 := by unfold kQ; omega
  have n1 : ¬ kQ 30 1 := by unfold kQ; omega
  have g3 := (hF4 3 n3).2.2.2.2
  have g1 := (hF4 1 n1).2.2.2.2
  refine ⟨rfl, rfl, hS4, hW2, ⟨0, by decide, (congrFun (e 38 (by decide)).2.2.2.2 1).trans h2, (congrFun (e 38 (by decide)).2.2.2.2 2).trans h3, Nat.zero_le _, fun i hi => (congrFun (e 39 (by decide)).2.2.2.1 i).trans (h4 i hi), fun i B hi => by cases hi⟩, ⟨fun s hs => (congrFun (e 40 (by decide)).2.2.2.1 s).trans (h5 s hs), fun s hs => ⟨(congrFun (e 41 (by decide)).1 s).trans (h6 s hs), fun B hB => by cases hB⟩⟩, ⟨(congrFun g1 1).trans (mg_sF_at _ _ _ _), Nat.zero_le _, fun i c hi => by cases hi⟩, ⟨(congrFun g3 6).trans ((mg_sF_ne _ _ (by decide)).trans h26), (congrFun g3 7).trans ((mg_sF_ne _ _ (by decide)).trans h27)⟩, ⟨(congrFun (e 146 (by decide)).2.2.2.2 1).trans h7, Nat.zero_le _, fun i c hi => by cases hi⟩, Or.inl ((congrFun (e 0 (by decide)).2.2.2.2 7).trans h8)⟩
end KC
