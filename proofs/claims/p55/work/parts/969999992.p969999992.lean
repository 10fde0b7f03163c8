/-- the draft while variables are declared -/
def dV (G : mg_G) (N : Nat → List Nat) (v : Nat) : Prop := v ≤ 8 ∧ G.2.2.2.2 4 6 = .int (Int32.ofNat 0) ∧ G.2.2.2.2 4 7 = .int (Int32.ofNat v) ∧ (∀ i, i < v → G.2.1 8 i = a_pk (N i)) ∧ (∀ i, i < v → G.1 9 i = Int32.ofNat i) ∧ (∀ i, i < v → G.1 10 i = 0) ∧ (∀ i, i < v → G.1 11 i = Int32.ofNat 50) ∧ (1 ≤ v → G.2.2.2.2 5 1 = .int (Int32.ofNat (a_wds v))) ∧ ∀ i, i < v → a_nm7 (N i) ∧ N i ≠ []
theorem dV.S {G : mg_G} {N : Nat → List Nat} {v : Nat} (h : dV G N v) (h1 : 1 ≤ v) : cS G 4 (vA N v) ∧ aW (vA N v) := by
  obtain ⟨a1, a2, a3, a4, a5, a6, a7, a8, a9⟩ := h
  exact ⟨⟨a8 h1, a2, a3, fun f hf => absurd hf (Nat.not_lt_zero f), fun f hf => absurd hf (Nat.not_lt_zero f), a4, a5, a6, a7⟩, vA_W h1 a1 a9⟩
theorem dV.fr {G G' : mg_G} {N : Nat → List Nat} {v : Nat} {P : Nat → Prop} (h : dV G N v) (f : mg_fr P G G') (hP : ∀ a, kQ 4 a → ¬ P a) : dV G' N v := by
  have e4 := (f 4 (hP 4 (by unfold kQ; omega))).2.2.2.2
  have e5 := (f 5 (hP 5 (by unfold kQ; omega))).2.2.2.2
  have e8 := (f 8 (hP 8 (by unfold kQ; omega))).2.1
  have e9 := (f 9 (hP 9 (by unfold kQ; omega))).1
  have e10 := (f 10 (hP 10 (by unfold kQ; omega))).1
  have e11 := (f 11 (hP 11 (by unfold kQ; omega))).1
  unfold dV at h ⊢
  rw [e4, e5, e8, e9, e10, e11]
  exact h
/-- on the way through the declarations -/
def dM (G0 G : mg_G) (N : Nat → List Nat) (v : Nat) (l : List Nat) (p : Nat) : Prop := yG G0 G ∧ dV G N v ∧ cIn G l ∧ ckB G l ∧ ck G l p ∧ G.2.2.2.2 3 5 = .int (Int32.ofNat 0) ∧ G.2.2.2.2 3 6 = G0.2.2.2.2 3 6 ∧ G.2.2.2.2 3 7 = G0.2.2.2.2 3 7
section DM
variable {G0 G G' : mg_G} {N : Nat → List Nat} {v : Nat} {l : List Nat} {p p' : Nat}
theorem dM.M (h : dM G0 G N v l p) (h1 : 1 ≤ v) : sM G0 G (vA N v) l p := ⟨h.1, ⟨(h.2.1.S h1).1, (h.2.1.S h1).2, h.2.2.1, h.2.2.2.1, h.2.2.2.2.1, h.2.2.2.2.2.1⟩, h.2.2.2.2.2.2⟩
theorem dM.t (h : dM G0 G N v l p) (hB : ckB G' l) (hk : ck G' l p') (hf : cTf G G') : dM G0 G' N v l p' :=
  ⟨h.1.tr hf.y.g, h.2.1.fr hf (fun a ha => by unfold kQ at ha; omega), hf.n h.2.2.1, hB, hk, (congrFun (hf 3 (by decide)).2.2.2.2 5).trans h.2.2.2.2.2.1, (congrFun (hf 3 (by decide)).2.2.2.2 6).trans h.2.2.2.2.2.2.1, (congrFun (hf 3 (by decide)).2.2.2.2 7).trans h.2.2.2.2.2.2.2⟩
theorem dM.w {N' : Nat → List Nat} {v' : Nat} (h : dM G0 G N v l p) (hV : dV G' N' v') {P : Nat → Prop} (hf : mg_fr P G G') (hP : ∀ a, P a → 4 ≤ a ∧ a ≤ 11) : dM G0 G' N' v' l p := by
  have n : ∀ a, a < 4 ∨ a = 12 → ¬ P a := fun a ha z => by have := hP a z; omega
  have f3 := (hf 3 (n 3 (by decide))).2.2.2.2
  have f12 := (hf 12 (n 12 (by decide))).2.2.2.2
  exact ⟨h.1.tr (hf.mono (fun a ha => by have := hP a ha; omega)), hV, h.2.2.1.fr hf (n 1 (by decide)) (n 2 (by decide)), h.2.2.2.1.f f12, h.2.2.2.2.1.f f12, (congrFun f3 5).trans h.2.2.2.2.2.1, (congrFun f3 6).trans h.2.2.2.2.2.2.1, (congrFun f3 7).trans h.2.2.2.2.2.2.2⟩
theorem dM.x (h : dM G0 G N v l p) (c : Int32) : cD G0 l (.inl (c, k_S l p)) (.inr xA) 1 (yX G c l p) := ⟨rfl, rfl, h.1.tr (yX_F G c l p).g, (mg_sF_ne _ _ (by decide)).trans (mg_sF_at _ _ _ _), mg_sF_at _ _ _ _⟩
end DM
section KC
variable {scr : Nat × (Nat → Int32)} {t : List mg_S} {G G0 : mg_G} {N : Nat → List Nat} {v : Nat} {l : List Nat} {p : Nat}
/-- a variable is added -/
theorem c65 (d : Nat) (hV : dV G N v) (h7 : v < 8) {w : List Nat} (hw : a_nm7 w ∧ w ≠ []) : mg_m (mg_KC scr t) (d + 2) 65 [.ref 4, .long (a_pk w)] G (fun o q G' => o = .inl none ∧ q = 0 ∧ dV G' (mg_u N v w) (v + 1) ∧ mg_fr (fun a => a = 4 ∨ a = 5 ∨ (8 ≤ a ∧ a ≤ 11)) G G') := by
  obtain ⟨a1, a2, a3, a4, a5, a6, a7, a8, a9⟩ := hV
  have k78 := fun G1 => c78 (K := mg_KC scr t) (G := G1) d (v + 1) (by omega) (kc_s2 (scr := scr) (t := t)).T
  refine mg_me [] 90 my_65 ms_65 (Nat.le_of_ble_eq_true rfl) ?_
  repeat (first | refine ⟨_, mg_Fs rfl rfl, ?_⟩ | refine ⟨Or.inl rfl, ?_⟩ | refine ⟨Or.inr ⟨_, rfl⟩, ?_⟩ | refine ⟨fun _ => ?_, fun h => absurd h (by decide)⟩ | refine ⟨fun h => absurd h (by decide), fun _ => ?_⟩)
  refine ⟨_, mg_Fe a3 rfl rfl, 8, v, rfl, mg_ixN (by omega), by omega, ?_⟩
  repeat (first | refine ⟨_, mg_Fs rfl rfl, ?_⟩ | refine ⟨Or.inl rfl, ?_⟩ | refine ⟨Or.inr ⟨_, rfl⟩, ?_⟩ | refine ⟨fun _ => ?_, fun h => absurd h (by decide)⟩ | refine ⟨fun h => absurd h (by decide), fun _ => ?_⟩)
  refine ⟨_, mg_Fe a3 rfl rfl, _, mg_Fe a3 rfl rfl, 8, v, rfl, mg_ixN (by omega), by omega, ?_⟩
  repeat (first | refine ⟨_, mg_Fs rfl rfl, ?_⟩ | refine ⟨Or.inl rfl, ?_⟩ | refine ⟨Or.inr ⟨_, rfl⟩, ?_⟩ | refine ⟨fun _ => ?_, fun h => absurd h (by decide)⟩ | refine ⟨fun h => absurd h (by decide), fun _ => ?_⟩)
  refine ⟨_, mg_Fe a3 rfl rfl, 8, v, rfl, mg_ixN (by omega), by omega, ?_⟩
  repeat (first | refine ⟨_, mg_Fs rfl rfl, ?_⟩ | refine ⟨Or.inl rfl, ?_⟩ | refine ⟨Or.inr ⟨_, rfl⟩, ?_⟩ | refine ⟨fun _ => ?_, fun h => absurd h (by decide)⟩ | refine ⟨fun h => absurd h (by decide), fun _ => ?_⟩)
  refine ⟨_, mg_Fe a3 rfl rfl, 8, v, rfl, mg_ixN (by omega), by omega, ?_⟩
  repeat (first | refine ⟨_, mg_Fs rfl rfl, ?_⟩ | refine ⟨Or.inl rfl, ?_⟩ | refine ⟨Or.inr ⟨_, rfl⟩, ?_⟩ | refine ⟨fun _ => ?_, fun h => absurd h (by decide)⟩ | refine ⟨fun h => absurd h (by decide), fun _ => ?_⟩)
  refine ⟨_, mg_Fe a3 rfl rfl, rfl, _, rfl, rfl, ?_⟩
  repeat (first | refine ⟨_, mg_Fs rfl rfl, ?_⟩ | refine ⟨Or.inl rfl, ?_⟩ | refine ⟨Or.inr ⟨_, rfl⟩, ?_⟩ | refine ⟨fun _ => ?_, fun h => absurd h (by decide)⟩ | refine ⟨fun h => absurd h (by decide), fun _ => ?_⟩)
  refine ⟨_, mg_Fe ((mg_sF_at _ _ _ _).trans (congrArg Value.int (mg_inc v))) rfl rfl, ?_⟩
  repeat (first | refine ⟨_, mg_Fs rfl rfl, ?_⟩ | refine ⟨Or.inl rfl, ?_⟩ | refine ⟨Or.inr ⟨_, rfl⟩, ?_⟩ | refine ⟨fun _ => ?_, fun h => absurd h (by decide)⟩ | refine ⟨fun h => absurd h (by decide), fun _ => ?_⟩)
  refine mg_cn (k78 _) (by omega) ?_
  have f1 : mg_fr (fun a => a = 4 ∨ a = 5 ∨ (8 ≤ a ∧ a ≤ 11)) G (mg_sI (mg_sI (mg_sI (mg_sJ G 8 v (a_pk w)) 9 v (Int32.ofNat v)) 10 v 0) 11 v (Int32.ofNat 50)) := ((((mg_fr.sJ (p := fun a => a = 4 ∨ a = 5 ∨ (8 ≤ a ∧ a ≤ 11)) G v (a_pk w) (by omega)).tr (mg_fr.sI _ _ _ (by omega))).tr (mg_fr.sI _ _ _ (by omega))).tr (mg_fr.sI _ _ _ (by omega)))
  refine ⟨rfl, rfl, ⟨by omega, ?_, ?_, fun i hi => ?_, fun i hi => ?_, fun i hi => ?_, fun i hi => ?_, fun _ => mg_sF_at _ _ _ _, mg_u_N a9 hw⟩, (f1.tr (mg_fr.sF _ _ _ (by omega))).tr (mg_fr.sF _ _ _ (by omega))⟩
  · exact (mg_sF_ne _ _ (by decide)).trans ((mg_sF_ne _ _ (by decide)).trans a2)
  · exact (mg_sF_ne _ _ (by decide)).trans ((mg_sF_at _ _ _ _).trans (congrArg Value.int (mg_inc v)))
  · show mg_u2 G.2.1 8 v (a_pk w) 8 i = a_pk (mg_u N v w i)
    rw [mg_u2_at]
    by_cases e : i = v
    · subst e
      rw [if_pos ⟨rfl, rfl⟩, mg_u_eq]
    · rw [if_neg (fun z => e z.2), mg_u_ne _ _ e]
      exact a4 i (by omega)
  · show mg_u2 (mg_u2 (mg_u2 G.1 9 v (Int32.ofNat v)) 10 v 0) 11 v (Int32.ofNat 50) 9 i = _
    rw [mg_u2_at, if_neg (fun z => absurd z.1 (by decide)), mg_u2_at, if_neg (fun z => absurd z.1 (by decide)), mg_u2_at]
    by_cases e : i = v
    · subst e
      rw [if_pos ⟨rfl, rfl⟩]
    · rw [if_neg (fun z => e z.2)]
      exact a5 i (by omega)
  · show mg_u2 (mg_u2 (mg_u2 G.1 9 v (Int32.ofNat v)) 10 v 0) 11 v (Int32.ofNat 50) 10 i = _
    rw [mg_u2_at, if_neg (fun z => absurd z.1 (by decide)), mg_u2_at]
    by_cases e : i = v
    · subst e
      rw [if_pos ⟨rfl, rfl⟩]
    · rw [if_neg (fun z => e z.2), mg_u2_at, if_neg (fun z => absurd z.1 (by decide))]
      exact a6 i (by omega)
  · show mg_u2 (mg_u2 (mg_u2 G.1 9 v (Int32.ofNat v)) 10 v 0) 11 v (Int32.ofNat 50) 11 i = _
    rw [mg_u2_at]
    by_cases e : i = v
    · subst e
      rw [if_pos ⟨rfl, rfl⟩]
    · rw [if_neg (fun z => e z.2), mg_u2_at, if_neg (fun z => absurd z.1 (by decide)), mg_u2_at, if_neg (fun z => absurd z.1 (by decide))]
      exact a7 i (by omega)
theorem t_nw_v (N : Nat → List Nat) (v : Nat) (l : List Nat) (p : Nat) : t_nw (vA N v) l p = (k_at N v l p).isNone := by
  show ((k_at N v l p).isNone && (k_at (fun _ => []) 0 l p).isNone) = _
  rw [show k_at (fun _ => []) 0 l p = none from rfl]
  exact Bool.and_true _
/-- a declaration -/
theorem c41 (d : Nat) (h : dM G0 G N v l p) (hp : p ≤ l.length) : mg_m (mg_KC scr t) (d + 12) 41 [.ref 3] G (fun o q G' => (k_nm l p = true ∧ t_nw (vA N v) l p = true ∧ v ≠ 8 ∧ o = .inl none ∧ q = 0 ∧ dM G0 G' (mg_u N v (k_W l p)) (v + 1) l (k_E l p)) ∨ ∃ c : Int32, (if k_nm l p = true then (if t_nw (vA N v) l p = true then (if v = 8 then some (5 : Int32) else none) else some 4) else some 1) = some c ∧ o = .inr xA ∧ q = 1 ∧ cD G0 l (.inl (c, k_S l p)) (.inr xA) 1 G') := by
  obtain ⟨-, hV, hN, hB, hk, -⟩ := id h
  have h8 := hV.1
  have kn := c98 (scr := scr) (t := t) d hk hp
  rw [t_nw_v]
  cases b1 : k_nm l p with
  | false =>
    rw [b1] at kn
    refine mg_me [] 60 my_41 ms_41 (Nat.le_of_ble_eq_true rfl) ?_
    repeat (first | refine ⟨_, mg_Fs rfl rfl, ?_⟩ | refine ⟨Or.inl rfl, ?_⟩ | refine ⟨Or.inr ⟨_, rfl⟩, ?_⟩ | refine ⟨fun _ => ?_, fun h => absurd h (by decide)⟩ | refine ⟨fun h => absurd h (by decide), fun _ => ?_⟩)
    refine mg_cv (kn) (by omega) ?_
    refine ⟨fun q => absurd rfl q, fun _ => ?_⟩
    repeat (first | refine ⟨_, mg_Fs rfl rfl, ?_⟩ | refine ⟨Or.inl rfl, ?_⟩ | refine ⟨Or.inr ⟨_, rfl⟩, ?_⟩ | refine ⟨fun _ => ?_, fun h => absurd h (by decide)⟩ | refine ⟨fun h => absurd h (by decide), fun _ => ?_⟩)
    refine mg_m_mono (c39x d hk 1) (by omega) ?_
    rintro o q G1 ⟨rfl, rfl, rfl⟩
    exact Or.inr ⟨1, if_neg (by decide), rfl, rfl, h.x 1⟩
  | true =>
  rw [b1] at kn
  have h1 := k_nm_1 b1
  have h7 := hk.2.2.2.1 h1
  have k69 : mg_m (mg_KC scr t) (d + 1) 69 [.ref 4, .long (a_pk (k_W l p))] G (mg_v (.int (a_oi (k_at N v l p))) G) := c69w d kc_s2 (by omega) hV.2.2.1 hp h1 (fun i hi => ⟨hV.2.2.2.1 i hi, (hV.2.2.2.2.2.2.2.2 i hi).1⟩)
  cases ev : k_at N v l p with
  | some i =>
    have hi : i < v := k_at_lt ev
    rw [ev] at k69
    refine mg_me [] 60 my_41 ms_41 (Nat.le_of_ble_eq_true rfl) ?_
    repeat (first | refine ⟨_, mg_Fs rfl rfl, ?_⟩ | refine ⟨Or.inl rfl, ?_⟩ | refine ⟨Or.inr ⟨_, rfl⟩, ?_⟩ | refine ⟨fun _ => ?_, fun h => absurd h (by decide)⟩ | refine ⟨fun h => absurd h (by decide), fun _ => ?_⟩)
    refine mg_cv (kn) (by omega) ?_
    refine ⟨fun _ => ?_, fun q => absurd q (by decide)⟩
    repeat (first | refine ⟨_, mg_Fs rfl rfl, ?_⟩ | refine ⟨Or.inl rfl, ?_⟩ | refine ⟨Or.inr ⟨_, rfl⟩, ?_⟩ | refine ⟨fun _ => ?_, fun h => absurd h (by decide)⟩ | refine ⟨fun h => absurd h (by decide), fun _ => ?_⟩)
    refine mg_cn (c39y d 1) (by omega) ?_
    repeat (first | refine ⟨_, mg_Fs rfl rfl, ?_⟩ | refine ⟨Or.inl rfl, ?_⟩ | refine ⟨Or.inr ⟨_, rfl⟩, ?_⟩ | refine ⟨fun _ => ?_, fun h => absurd h (by decide)⟩ | refine ⟨fun h => absurd h (by decide), fun _ => ?_⟩)
    refine ⟨_, mg_Fe h7 rfl rfl, ?_⟩
    repeat (first | refine ⟨_, mg_Fs rfl rfl, ?_⟩ | refine ⟨Or.inl rfl, ?_⟩ | refine ⟨Or.inr ⟨_, rfl⟩, ?_⟩ | refine ⟨fun _ => ?_, fun h => absurd h (by decide)⟩ | refine ⟨fun h => absurd h (by decide), fun _ => ?_⟩)
    refine mg_cv (k69) (by omega) ?_
    refine ⟨fun q => absurd q (mg_n1 (by omega)), fun _ => ?_⟩
    repeat (first | refine ⟨_, mg_Fs rfl rfl, ?_⟩ | refine ⟨Or.inl rfl, ?_⟩ | refine ⟨Or.inr ⟨_, rfl⟩, ?_⟩ | refine ⟨fun _ => ?_, fun h => absurd h (by decide)⟩ | refine ⟨fun h => absurd h (by decide), fun _ => ?_⟩)
    refine mg_m_mono (c39x d hk 4) (by omega) ?_
    rintro o q G1 ⟨rfl, rfl, rfl⟩
    exact Or.inr ⟨4, rfl, rfl, rfl, h.x 4⟩
  | none =>
  rw [ev] at k69
  have st : ∀ Q : mg_Q, mg_wp (mg_KC scr t) mc_41 (d + 11) 48 [some (.ref 3)] [] G Q → mg_m (mg_KC scr t) (d + 12) 41 [.ref 3] G Q := fun Q g => by
    refine mg_me [48] 60 my_41 ms_41 (Nat.le_of_ble_eq_true rfl) ?_
    repeat (first | refine ⟨_, mg_Fs rfl rfl, ?_⟩ | refine ⟨Or.inl rfl, ?_⟩ | refine ⟨Or.inr ⟨_, rfl⟩, ?_⟩ | refine ⟨fun _ => ?_, fun h => absurd h (by decide)⟩ | refine ⟨fun h => absurd h (by decide), fun _ => ?_⟩)
    refine mg_cv (kn) (by omega) ?_
    refine ⟨fun _ => ?_, fun q => absurd q (by decide)⟩
    repeat (first | refine ⟨_, mg_Fs rfl rfl, ?_⟩ | refine ⟨Or.inl rfl, ?_⟩ | refine ⟨Or.inr ⟨_, rfl⟩, ?_⟩ | refine ⟨fun _ => ?_, fun h => absurd h (by decide)⟩ | refine ⟨fun h => absurd h (by decide), fun _ => ?_⟩)
    refine mg_cn (c39y d 1) (by omega) ?_
    repeat (first | refine ⟨_, mg_Fs rfl rfl, ?_⟩ | refine ⟨Or.inl rfl, ?_⟩ | refine ⟨Or.inr ⟨_, rfl⟩, ?_⟩ | refine ⟨fun _ => ?_, fun h => absurd h (by decide)⟩ | refine ⟨fun h => absurd h (by decide), fun _ => ?_⟩)
    refine ⟨_, mg_Fe h7 rfl rfl, ?_⟩
    repeat (first | refine ⟨_, mg_Fs rfl rfl, ?_⟩ | refine ⟨Or.inl rfl, ?_⟩ | refine ⟨Or.inr ⟨_, rfl⟩, ?_⟩ | refine ⟨fun _ => ?_, fun h => absurd h (by decide)⟩ | refine ⟨fun h => absurd h (by decide), fun _ => ?_⟩)
    refine mg_cv (k69) (by omega) ?_
    refine ⟨fun _ => ?_, fun q => absurd rfl q⟩
    repeat (first | refine ⟨_, mg_Fs rfl rfl, ?_⟩ | refine ⟨Or.inl rfl, ?_⟩ | refine ⟨Or.inr ⟨_, rfl⟩, ?_⟩ | refine ⟨fun _ => ?_, fun h => absurd h (by decide)⟩ | refine ⟨fun h => absurd h (by decide), fun _ => ?_⟩)
    refine mg_cn (c39y d 4) (by omega) ?_
    exact g
  refine st _ ?_
  by_cases e8 : v = 8
  · subst e8
    refine mg_go [] 60 48 ms_41 ?_
    repeat (first | refine ⟨_, mg_Fs rfl rfl, ?_⟩ | refine ⟨Or.inl rfl, ?_⟩ | refine ⟨Or.inr ⟨_, rfl⟩, ?_⟩ | refine ⟨fun _ => ?_, fun h => absurd h (by decide)⟩ | refine ⟨fun h => absurd h (by decide), fun _ => ?_⟩)
    refine ⟨_, mg_Fe hV.2.2.1 rfl rfl, fun q => absurd q (by decide), fun _ => ?_⟩
    repeat (first | refine ⟨_, mg_Fs rfl rfl, ?_⟩ | refine ⟨Or.inl rfl, ?_⟩ | refine ⟨Or.inr ⟨_, rfl⟩, ?_⟩ | refine ⟨fun _ => ?_, fun h => absurd h (by decide)⟩ | refine ⟨fun h => absurd h (by decide), fun _ => ?_⟩)
    refine mg_m_mono (c39x d hk 5) (by omega) ?_
    rintro o q G1 ⟨rfl, rfl, rfl⟩
    exact Or.inr ⟨5, rfl, rfl, rfl, h.x 5⟩
  · refine mg_go [] 60 48 ms_41 ?_
    repeat (first | refine ⟨_, mg_Fs rfl rfl, ?_⟩ | refine ⟨Or.inl rfl, ?_⟩ | refine ⟨Or.inr ⟨_, rfl⟩, ?_⟩ | refine ⟨fun _ => ?_, fun h => absurd h (by decide)⟩ | refine ⟨fun h => absurd h (by decide), fun _ => ?_⟩)
    refine ⟨_, mg_Fe hV.2.2.1 rfl rfl, fun _ => ?_, fun q => absurd q (mg_nle (b := 8) (by omega) (by decide))⟩
    repeat (first | refine ⟨_, mg_Fs rfl rfl, ?_⟩ | refine ⟨Or.inl rfl, ?_⟩ | refine ⟨Or.inr ⟨_, rfl⟩, ?_⟩ | refine ⟨fun _ => ?_, fun h => absurd h (by decide)⟩ | refine ⟨fun h => absurd h (by decide), fun _ => ?_⟩)
    refine mg_cn (c39y d 5) (by omega) ?_
    repeat (first | refine ⟨_, mg_Fs rfl rfl, ?_⟩ | refine ⟨Or.inl rfl, ?_⟩ | refine ⟨Or.inr ⟨_, rfl⟩, ?_⟩ | refine ⟨fun _ => ?_, fun h => absurd h (by decide)⟩ | refine ⟨fun h => absurd h (by decide), fun _ => ?_⟩)
    refine ⟨_, mg_Fe h7 rfl rfl, ?_⟩
    repeat (first | refine ⟨_, mg_Fs rfl rfl, ?_⟩ | refine ⟨Or.inl rfl, ?_⟩ | refine ⟨Or.inr ⟨_, rfl⟩, ?_⟩ | refine ⟨fun _ => ?_, fun h => absurd h (by decide)⟩ | refine ⟨fun h => absurd h (by decide), fun _ => ?_⟩)
    refine mg_m_mono (c65 d hV (by omega) ⟨(k_W_nm hp h1).1, (k_W_nm hp h1).2.1⟩) (by omega) ?_
    rintro o q G1 ⟨rfl, rfl, hV1, f1⟩
    have h1 := h.w hV1 f1 (fun a ha => by omega)
    repeat (first | refine ⟨_, mg_Fs rfl rfl, ?_⟩ | refine ⟨Or.inl rfl, ?_⟩ | refine ⟨Or.inr ⟨_, rfl⟩, ?_⟩ | refine ⟨fun _ => ?_, fun h => absurd h (by decide)⟩ | refine ⟨fun h => absurd h (by decide), fun _ => ?_⟩)
    refine mg_m_mono (c93 d h1.2.2.1 (k_E_le hp) h1.2.2.2.1 h1.2.2.2.2.1.1) (by omega) ?_
    rintro o q G2 ⟨rfl, rfl, w1, w2, w3⟩
    exact Or.inl ⟨rfl, rfl, e8, rfl, rfl, h1.t w1 w2 w3⟩
end KC
