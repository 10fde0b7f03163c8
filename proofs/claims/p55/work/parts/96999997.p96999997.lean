section KC
variable {scr : Nat × (Nat → Int32)} {t : List mg_S} {G G0 : mg_G} {A : a_A} {l : List Nat} {p : Nat}
theorem c38 (d : Nat) (hN : cIn G l) : mg_m (mg_KC scr t) (d + 4) 38 [.ref 3, .ref 1] G (fun o q G' => o = .inl none ∧ q = 0 ∧ ckB G' l ∧ ck G' l 0 ∧ G'.2.2.2.2 3 5 = .int (Int32.ofNat 0) ∧ G'.2.2.2.2 3 6 = .int 0 ∧ G'.2.2.2.2 3 7 = .int (Int32.ofInt (-1)) ∧ mg_fr (fun a => a = 3 ∨ a = 12) G G') := by
  have f : mg_fr (fun a => a = 3) G (mg_sF (mg_sF (mg_sF G 3 6 (.int 0)) 3 7 (.int (Int32.ofInt (-1)))) 3 5 (.int 0)) := ((mg_fr.sF (p := fun a => a = 3) _ _ _ rfl).tr (mg_fr.sF _ _ _ rfl)).tr (mg_fr.sF _ _ _ rfl)
  refine mg_me [] 60 my_38 ms_38 (Nat.le_of_ble_eq_true rfl) ?_
  refine ⟨rfl, _, rfl, rfl, rfl, _, rfl, rfl, rfl, _, rfl, rfl, ?_⟩
  repeat (first | refine ⟨_, mg_Fs rfl rfl, ?_⟩ | refine ⟨Or.inl rfl, ?_⟩ | refine ⟨Or.inr ⟨_, rfl⟩, ?_⟩ | refine ⟨fun _ => ?_, fun h => absurd h (by decide)⟩ | refine ⟨fun h => absurd h (by decide), fun _ => ?_⟩)
  refine mg_m_mono (c92 d (hN.fr f (by decide) (by decide))) (by omega) ?_
  rintro o q G1 ⟨rfl, rfl, w1, w2, w3⟩
  have e3 := (w3 3 (by decide)).2.2.2.2
  exact ⟨rfl, rfl, w1, w2, (congrFun e3 5).trans (mg_sF_at _ _ _ _), (congrFun e3 6).trans ((mg_sF_ne _ _ (by decide)).trans ((mg_sF_ne _ _ (by decide)).trans (mg_sF_at _ _ _ _))), (congrFun e3 7).trans ((mg_sF_ne _ _ (by decide)).trans (mg_sF_at _ _ _ _)), (f.mono (fun a ha => Or.inl ha)).tr (w3.mono (fun a ha => Or.inr ha))⟩
theorem c42O (d : Nat) (hM : sM G0 G A l p) (hp : p ≤ l.length) (sc : Bool) {many : Nat} (hm : sc = true → many ≤ 30) : mg_m (mg_KC scr t) (d + 201) 42 [.ref 3, .int (b2 sc), .int (Int32.ofNat many)] G (cD G0 l (tO sc A l many p)) := c42 d hM hp sc hm
end KC
