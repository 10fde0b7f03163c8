/-! REFERENCE: costs, percentages, undo, save, restore -/
def setC (A : a_A) (v : Nat) (x : Int32) : a_A := (aV A, aF A, aD A, mg_u (aC A) v x, aP A, aVN A, aFN A, aT A)
def setP (A : a_A) (v : Nat) (x : Int32) : a_A := (aV A, aF A, aD A, aC A, mg_u (aP A) v x, aVN A, aFN A, aT A)
def setD (A : a_A) (ord : Nat → Nat) : a_A := (aV A, aF A, ord, aC A, aP A, aVN A, aFN A, aT A)
theorem setC_W {A : a_A} (h : aW A) (v : Nat) (x : Int32) : aW (setC A v x) := h
theorem setP_W {A : a_A} (h : aW A) (v p : Nat) (hp : p ≤ 100) : aW (setP A v (Int32.ofNat p)) := by
  obtain ⟨h1, h2, h3, h4, h5, h6, h7⟩ := h
  refine ⟨h1, h2, h3, h4, h5, h6, fun u hu => ?_⟩
  show ∃ q, q ≤ 100 ∧ mg_u (aP A) v (Int32.ofNat p) u = Int32.ofNat q
  by_cases e : u = v
  · subst e
    exact ⟨p, hp, mg_u_eq _ _ _⟩
  · rw [mg_u_ne _ _ e]
    exact h7 u hu
theorem setD_W {A : a_A} (h : aW A) {ord : Nat → Nat} (ho : aO ord (aV A)) : aW (setD A ord) := ⟨h.1, ho, h.2.2⟩
def p319 (S : a_S) (v c : Int32) : a_S × qR := pV S v fun v => match vi c 100 with
  | none => (S, (2, 0))
  | some c => ((setC (sA S) v (Int32.ofNat c), a_push (sU S) (sA S), S.2.2), (0, aC (sA S) v))
def p320 (S : a_S) (v c : Int32) : a_S × qR := pV S v fun v => match vi c 101 with
  | none => (S, (2, 0))
  | some c => ((setP (sA S) v (Int32.ofNat c), a_push (sU S) (sA S), S.2.2), (0, aP (sA S) v))
def p321 (S : a_S) : a_S × qR := match (sU S).getLast? with
  | none => (S, (1, 0))
  | some B => ((B, (sU S).dropLast, S.2.2), (0, Int32.ofNat ((sU S).length - 1)))
def p322 (S : a_S) (s : Int32) : a_S × qR := match vi s 2 with
  | none => (S, (1, 0))
  | some s => ((sA S, sU S, mg_u (sV S) s (some (sA S)), S.2.2.2), (0, Int32.ofNat (aN (sA S)).length))
def p323 (S : a_S) (s : Int32) : a_S × qR := match vi s 2 with
  | none => (S, (1, 0))
  | some s => match sV S s with
    | none => (S, (2, 0))
    | some B => ((B, [], S.2.2), (0, Int32.ofNat (aN B).length))
section RM
variable {scr : Nat × (Nat → Int32)} {t : List mg_S} {G : mg_G} {S : a_S}
/-- remember, behind the checks -/
theorem r185A (d : Nat) (hT : rT G S) : mg_m (mg_KM scr t) (d + 2) 185 [.ref 148, .int (Int32.ofNat 0)] (mg_sF G 148 10 (.int 0)) (fun o q G' => o = .inl none ∧ q = 0 ∧ rT G' (sA S, a_push (sU S) (sA S), S.2.2) ∧ rF G G' ∧ G'.2.2.2.2 148 10 = .int 0) := by
  have hT1 := hT.s10 (.int 0)
  refine mg_m_mono (r185 d 0 (Or.inl rfl) (by decide) hT1.2.2.1 hT1.2.1) (Nat.le_refl _) ?_
  rintro o q G' ⟨rfl, rfl, hU, hY, hb⟩
  exact ⟨rfl, rfl, hT1.rem hU hY hb, (rF.s _ _ _).tr hY.F, (hY.2.2.2.2 148 10 (by decide)).trans (mg_sF_at _ _ _ _)⟩
/-- a call that ends with build -/
theorem r201B (d : Nat) {G0 : mg_G} (hT : rT G S) (hF : rF G0 G) (h10 : G.2.2.2.2 148 10 = .int 0) : mg_m (mg_KM scr t) (d + aV (sA S) + 7) 201 [.ref 148] G (rA G0 S (0, Int32.ofNat (aN (sA S)).length)) := by
  refine mg_m_mono (r201A d hT.I) (Nat.le_refl _) ?_
  rintro o q G' ⟨rfl, rfl, hX, -⟩
  exact ⟨rfl, rfl, (hX.2.2.2 148 10 (by decide)).trans h10, hT.X hX, hF.tr hX.F⟩
theorem r319 (d : Nat) (hT : rT G S) (v c : Int32) : mg_m (mg_KM scr t) (d + 7) 319 [.ref 148, .int v, .int c] G (rAp G (p319 S v c)) := by
  have hI := hT.I
  have h8 := hI.v8
  have hI3 : rI (mg_sF G 148 10 (.int 0)) (sA S) := hI
  unfold p319 rAp
  cases hv : vi v (aV (sA S)) with
  | none =>
    rw [pV_x hv]
    refine mg_me [] 120 my_319 ms_319 (Nat.le_of_ble_eq_true rfl) ?_
    repeat (first | refine ⟨_, mg_Fs rfl rfl, ?_⟩ | refine ⟨_, mg_Fd rfl rfl, ?_⟩ | refine ⟨Or.inl rfl, ?_⟩ | refine ⟨Or.inr ⟨_, rfl⟩, ?_⟩ | refine ⟨fun _ => ?_, fun h => absurd h (by decide)⟩ | refine ⟨fun h => absurd h (by decide), fun _ => ?_⟩)
    refine mg_cv (r180x d hI hv) (by omega) ?_
    repeat (first | refine ⟨_, mg_Fs rfl rfl, ?_⟩ | refine ⟨_, mg_Fd rfl rfl, ?_⟩ | refine ⟨Or.inl rfl, ?_⟩ | refine ⟨Or.inr ⟨_, rfl⟩, ?_⟩ | refine ⟨fun _ => ?_, fun h => absurd h (by decide)⟩ | refine ⟨fun h => absurd h (by decide), fun _ => ?_⟩)
    refine mg_cv (r177 d c 0 _ G) (by omega) ?_
    refine ⟨fun _ => ?_, fun _ => ?_⟩
    · repeat (first | refine ⟨_, mg_Fs rfl rfl, ?_⟩ | refine ⟨_, mg_Fd rfl rfl, ?_⟩ | refine ⟨Or.inl rfl, ?_⟩ | refine ⟨Or.inr ⟨_, rfl⟩, ?_⟩ | refine ⟨fun _ => ?_, fun h => absurd h (by decide)⟩ | refine ⟨fun h => absurd h (by decide), fun _ => ?_⟩)
      refine mg_cv (r176_1 d _ _) (by omega) ?_
      repeat (first | refine ⟨_, mg_Fs rfl rfl, ?_⟩ | refine ⟨_, mg_Fd rfl rfl, ?_⟩ | refine ⟨Or.inl rfl, ?_⟩ | refine ⟨Or.inr ⟨_, rfl⟩, ?_⟩ | refine ⟨fun _ => ?_, fun h => absurd h (by decide)⟩ | refine ⟨fun h => absurd h (by decide), fun _ => ?_⟩)
      exact rA_x hT rfl
    · repeat (first | refine ⟨_, mg_Fs rfl rfl, ?_⟩ | refine ⟨_, mg_Fd rfl rfl, ?_⟩ | refine ⟨Or.inl rfl, ?_⟩ | refine ⟨Or.inr ⟨_, rfl⟩, ?_⟩ | refine ⟨fun _ => ?_, fun h => absurd h (by decide)⟩ | refine ⟨fun h => absurd h (by decide), fun _ => ?_⟩)
      refine mg_cv (r176_1 d _ _) (by omega) ?_
      repeat (first | refine ⟨_, mg_Fs rfl rfl, ?_⟩ | refine ⟨_, mg_Fd rfl rfl, ?_⟩ | refine ⟨Or.inl rfl, ?_⟩ | refine ⟨Or.inr ⟨_, rfl⟩, ?_⟩ | refine ⟨fun _ => ?_, fun h => absurd h (by decide)⟩ | refine ⟨fun h => absurd h (by decide), fun _ => ?_⟩)
      exact rA_x hT rfl
  | some i =>
    obtain ⟨rfl, hi⟩ := vi_s hv
    rw [pV_y hv]
    cases hc : vi c 100 with
    | none =>
      refine mg_me [] 120 my_319 ms_319 (Nat.le_of_ble_eq_true rfl) ?_
      repeat (first | refine ⟨_, mg_Fs rfl rfl, ?_⟩ | refine ⟨_, mg_Fd rfl rfl, ?_⟩ | refine ⟨Or.inl rfl, ?_⟩ | refine ⟨Or.inr ⟨_, rfl⟩, ?_⟩ | refine ⟨fun _ => ?_, fun h => absurd h (by decide)⟩ | refine ⟨fun h => absurd h (by decide), fun _ => ?_⟩)
      refine mg_cv (r180y d hI hv) (by omega) ?_
      repeat (first | refine ⟨_, mg_Fs rfl rfl, ?_⟩ | refine ⟨_, mg_Fd rfl rfl, ?_⟩ | refine ⟨Or.inl rfl, ?_⟩ | refine ⟨Or.inr ⟨_, rfl⟩, ?_⟩ | refine ⟨fun _ => ?_, fun h => absurd h (by decide)⟩ | refine ⟨fun h => absurd h (by decide), fun _ => ?_⟩)
      refine mg_cv (r177x d hc (by decide) (by decide)) (by omega) ?_
      repeat (first | refine ⟨_, mg_Fs rfl rfl, ?_⟩ | refine ⟨_, mg_Fd rfl rfl, ?_⟩ | refine ⟨Or.inl rfl, ?_⟩ | refine ⟨Or.inr ⟨_, rfl⟩, ?_⟩ | refine ⟨fun _ => ?_, fun h => absurd h (by decide)⟩ | refine ⟨fun h => absurd h (by decide), fun _ => ?_⟩)
      refine mg_cv (r176_2 d _) (by omega) ?_
      repeat (first | refine ⟨_, mg_Fs rfl rfl, ?_⟩ | refine ⟨_, mg_Fd rfl rfl, ?_⟩ | refine ⟨Or.inl rfl, ?_⟩ | refine ⟨Or.inr ⟨_, rfl⟩, ?_⟩ | refine ⟨fun _ => ?_, fun h => absurd h (by decide)⟩ | refine ⟨fun h => absurd h (by decide), fun _ => ?_⟩)
      exact rA_x hT rfl
    | some j =>
      obtain ⟨rfl, hj⟩ := vi_s hc
      refine mg_me [] 120 my_319 ms_319 (Nat.le_of_ble_eq_true rfl) ?_
      repeat (first | refine ⟨_, mg_Fs rfl rfl, ?_⟩ | refine ⟨_, mg_Fd rfl rfl, ?_⟩ | refine ⟨Or.inl rfl, ?_⟩ | refine ⟨Or.inr ⟨_, rfl⟩, ?_⟩ | refine ⟨fun _ => ?_, fun h => absurd h (by decide)⟩ | refine ⟨fun h => absurd h (by decide), fun _ => ?_⟩)
      refine mg_cv (r180y d hI hv) (by omega) ?_
      repeat (first | refine ⟨_, mg_Fs rfl rfl, ?_⟩ | refine ⟨_, mg_Fd rfl rfl, ?_⟩ | refine ⟨Or.inl rfl, ?_⟩ | refine ⟨Or.inr ⟨_, rfl⟩, ?_⟩ | refine ⟨fun _ => ?_, fun h => absurd h (by decide)⟩ | refine ⟨fun h => absurd h (by decide), fun _ => ?_⟩)
      refine mg_cv (r177y d hc (by decide) (by decide)) (by omega) ?_
      repeat (first | refine ⟨_, mg_Fs rfl rfl, ?_⟩ | refine ⟨_, mg_Fd rfl rfl, ?_⟩ | refine ⟨Or.inl rfl, ?_⟩ | refine ⟨Or.inr ⟨_, rfl⟩, ?_⟩ | refine ⟨fun _ => ?_, fun h => absurd h (by decide)⟩ | refine ⟨fun h => absurd h (by decide), fun _ => ?_⟩)
      refine mg_cv (r176_0 d) (by omega) ?_
      repeat (first | refine ⟨_, mg_Fs rfl rfl, ?_⟩ | refine ⟨_, mg_Fd rfl rfl, ?_⟩ | refine ⟨Or.inl rfl, ?_⟩ | refine ⟨Or.inr ⟨_, rfl⟩, ?_⟩ | refine ⟨fun _ => ?_, fun h => absurd h (by decide)⟩ | refine ⟨fun h => absurd h (by decide), fun _ => ?_⟩)
      refine mg_m_mono (r185A d hT) (by omega) ?_
      rintro o q G1 ⟨rfl, rfl, hT1, hF1, h10⟩
      have hI1 := hT1.I
      repeat (first | refine ⟨_, mg_Fs rfl rfl, ?_⟩ | refine ⟨_, mg_Fd rfl rfl, ?_⟩ | refine ⟨Or.inl rfl, ?_⟩ | refine ⟨Or.inr ⟨_, rfl⟩, ?_⟩ | refine ⟨fun _ => ?_, fun h => absurd h (by decide)⟩ | refine ⟨fun h => absurd h (by decide), fun _ => ?_⟩)
      refine ⟨_, _, 10 + i, mg_Ai rfl (by decide), mg_ixE (by rw [Int32.ofNat_add]; rfl) (by omega), by omega, ?_⟩
      rw [hI1.c hi]
      repeat (first | refine ⟨_, mg_Fs rfl rfl, ?_⟩ | refine ⟨_, mg_Fd rfl rfl, ?_⟩ | refine ⟨Or.inl rfl, ?_⟩ | refine ⟨Or.inr ⟨_, rfl⟩, ?_⟩ | refine ⟨fun _ => ?_, fun h => absurd h (by decide)⟩ | refine ⟨fun h => absurd h (by decide), fun _ => ?_⟩)
      refine ⟨2232, 10 + i, rfl, mg_ixE (by rw [Int32.ofNat_add]; rfl) (by omega), by omega, Or.inl rfl, rfl, rfl, h10, ?_, hF1.tr (rF.i _ _ _ (by decide))⟩
      have ne : ∀ k, k ≠ 10 + i → (mg_sI G1 149 (10 + i) (Int32.ofNat j)).1 149 k = G1.1 149 k := fun k hk => mg_sI_ne _ _ _ _ hk
      refine hT1.r0 (r0.i G1 _ (by omega)) ⟨bA0 ?_ ?_ ?_ ?_ ?_ ?_ ?_ ?_, setC_W hI.W _ _⟩
      · rw [ne 0 (by omega)]; exact hI1.v
      · rw [ne 1 (by omega)]; exact hI1.f
      · intro k hk; have hk : k < aV (sA S) := hk; rw [ne _ (by omega)]; exact hI1.o hk
      · intro k hk
        have hk : k < aV (sA S) := hk
        show _ = mg_u (aC (sA S)) i (Int32.ofNat j) k
        by_cases e : k = i
        · subst e
          rw [mg_sI_eq, mg_u_eq]
        · rw [ne _ (by omega), mg_u_ne _ _ e]
          exact hI1.c hk
      · intro k hk; have hk : k < aV (sA S) := hk; rw [ne _ (by omega)]; exact hI1.p hk
      · intro k hk; have hk : k < aV (sA S) := hk; exact ⟨by rw [ne _ (by omega)]; exact (hI1.vn hk).1, fun l c hl => by rw [ne _ (by omega)]; exact (hI1.vn hk).2 l c hl⟩
      · intro k hk; have hk : k < aF (sA S) := hk; exact ⟨by rw [ne _ (by omega)]; exact (hI1.fn hk).1, fun l c hl => by rw [ne _ (by omega)]; exact (hI1.fn hk).2 l c hl⟩
      · intro k hk; exact hI1.t hk
theorem r320 (d : Nat) (hT : rT G S) (v c : Int32) : mg_m (mg_KM scr t) (d + 7) 320 [.ref 148, .int v, .int c] G (rAp G (p320 S v c)) := by
  have hI := hT.I
  have h8 := hI.v8
  have hI3 : rI (mg_sF G 148 10 (.int 0)) (sA S) := hI
  unfold p320 rAp
  cases hv : vi v (aV (sA S)) with
  | none =>
    rw [pV_x hv]
    refine mg_me [] 120 my_320 ms_320 (Nat.le_of_ble_eq_true rfl) ?_
    repeat (first | refine ⟨_, mg_Fs rfl rfl, ?_⟩ | refine ⟨_, mg_Fd rfl rfl, ?_⟩ | refine ⟨Or.inl rfl, ?_⟩ | refine ⟨Or.inr ⟨_, rfl⟩, ?_⟩ | refine ⟨fun _ => ?_, fun h => absurd h (by decide)⟩ | refine ⟨fun h => absurd h (by decide), fun _ => ?_⟩)
    refine mg_cv (r180x d hI hv) (by omega) ?_
    repeat (first | refine ⟨_, mg_Fs rfl rfl, ?_⟩ | refine ⟨_, mg_Fd rfl rfl, ?_⟩ | refine ⟨Or.inl rfl, ?_⟩ | refine ⟨Or.inr ⟨_, rfl⟩, ?_⟩ | refine ⟨fun _ => ?_, fun h => absurd h (by decide)⟩ | refine ⟨fun h => absurd h (by decide), fun _ => ?_⟩)
    refine mg_cv (r177 d c 0 _ G) (by omega) ?_
    refine ⟨fun _ => ?_, fun _ => ?_⟩
    · repeat (first | refine ⟨_, mg_Fs rfl rfl, ?_⟩ | refine ⟨_, mg_Fd rfl rfl, ?_⟩ | refine ⟨Or.inl rfl, ?_⟩ | refine ⟨Or.inr ⟨_, rfl⟩, ?_⟩ | refine ⟨fun _ => ?_, fun h => absurd h (by decide)⟩ | refine ⟨fun h => absurd h (by decide), fun _ => ?_⟩)
      refine mg_cv (r176_1 d _ _) (by omega) ?_
      repeat (first | refine ⟨_, mg_Fs rfl rfl, ?_⟩ | refine ⟨_, mg_Fd rfl rfl, ?_⟩ | refine ⟨Or.inl rfl, ?_⟩ | refine ⟨Or.inr ⟨_, rfl⟩, ?_⟩ | refine ⟨fun _ => ?_, fun h => absurd h (by decide)⟩ | refine ⟨fun h => absurd h (by decide), fun _ => ?_⟩)
      exact rA_x hT rfl
    · repeat (first | refine ⟨_, mg_Fs rfl rfl, ?_⟩ | refine ⟨_, mg_Fd rfl rfl, ?_⟩ | refine ⟨Or.inl rfl, ?_⟩ | refine ⟨Or.inr ⟨_, rfl⟩, ?_⟩ | refine ⟨fun _ => ?_, fun h => absurd h (by decide)⟩ | refine ⟨fun h => absurd h (by decide), fun _ => ?_⟩)
      refine mg_cv (r176_1 d _ _) (by omega) ?_
      repeat (first | refine ⟨_, mg_Fs rfl rfl, ?_⟩ | refine ⟨_, mg_Fd rfl rfl, ?_⟩ | refine ⟨Or.inl rfl, ?_⟩ | refine ⟨Or.inr ⟨_, rfl⟩, ?_⟩ | refine ⟨fun _ => ?_, fun h => absurd h (by decide)⟩ | refine ⟨fun h => absurd h (by decide), fun _ => ?_⟩)
      exact rA_x hT rfl
  | some i =>
    obtain ⟨rfl, hi⟩ := vi_s hv
    rw [pV_y hv]
    cases hc : vi c 101 with
    | none =>
      refine mg_me [] 120 my_320 ms_320 (Nat.le_of_ble_eq_true rfl) ?_
      repeat (first | refine ⟨_, mg_Fs rfl rfl, ?_⟩ | refine ⟨_, mg_Fd rfl rfl, ?_⟩ | refine ⟨Or.inl rfl, ?_⟩ | refine ⟨Or.inr ⟨_, rfl⟩, ?_⟩ | refine ⟨fun _ => ?_, fun h => absurd h (by decide)⟩ | refine ⟨fun h => absurd h (by decide), fun _ => ?_⟩)
      refine mg_cv (r180y d hI hv) (by omega) ?_
      repeat (first | refine ⟨_, mg_Fs rfl rfl, ?_⟩ | refine ⟨_, mg_Fd rfl rfl, ?_⟩ | refine ⟨Or.inl rfl, ?_⟩ | refine ⟨Or.inr ⟨_, rfl⟩, ?_⟩ | refine ⟨fun _ => ?_, fun h => absurd h (by decide)⟩ | refine ⟨fun h => absurd h (by decide), fun _ => ?_⟩)
      refine mg_cv (r177x d hc (by decide) (by decide)) (by omega) ?_
      repeat (first | refine ⟨_, mg_Fs rfl rfl, ?_⟩ | refine ⟨_, mg_Fd rfl rfl, ?_⟩ | refine ⟨Or.inl rfl, ?_⟩ | refine ⟨Or.inr ⟨_, rfl⟩, ?_⟩ | refine ⟨fun _ => ?_, fun h => absurd h (by decide)⟩ | refine ⟨fun h => absurd h (by decide), fun _ => ?_⟩)
      refine mg_cv (r176_2 d _) (by omega) ?_
      repeat (first | refine ⟨_, mg_Fs rfl rfl, ?_⟩ | refine ⟨_, mg_Fd rfl rfl, ?_⟩ | refine ⟨Or.inl rfl, ?_⟩ | refine ⟨Or.inr ⟨_, rfl⟩, ?_⟩ | refine ⟨fun _ => ?_, fun h => absurd h (by decide)⟩ | refine ⟨fun h => absurd h (by decide), fun _ => ?_⟩)
      exact rA_x hT rfl
    | some j =>
      obtain ⟨rfl, hj⟩ := vi_s hc
      refine mg_me [] 120 my_320 ms_320 (Nat.le_of_ble_eq_true rfl) ?_
      repeat (first | refine ⟨_, mg_Fs rfl rfl, ?_⟩ | refine ⟨_, mg_Fd rfl rfl, ?_⟩ | refine ⟨Or.inl rfl, ?_⟩ | refine ⟨Or.inr ⟨_, rfl⟩, ?_⟩ | refine ⟨fun _ => ?_, fun h => absurd h (by decide)⟩ | refine ⟨fun h => absurd h (by decide), fun _ => ?_⟩)
      refine mg_cv (r180y d hI hv) (by omega) ?_
      repeat (first | refine ⟨_, mg_Fs rfl rfl, ?_⟩ | refine ⟨_, mg_Fd rfl rfl, ?_⟩ | refine ⟨Or.inl rfl, ?_⟩ | refine ⟨Or.inr ⟨_, rfl⟩, ?_⟩ | refine ⟨fun _ => ?_, fun h => absurd h (by decide)⟩ | refine ⟨fun h => absurd h (by decide), fun _ => ?_⟩)
      refine mg_cv (r177y d hc (by decide) (by decide)) (by omega) ?_
      repeat (first | refine ⟨_, mg_Fs rfl rfl, ?_⟩ | refine ⟨_, mg_Fd rfl rfl, ?_⟩ | refine ⟨Or.inl rfl, ?_⟩ | refine ⟨Or.inr ⟨_, rfl⟩, ?_⟩ | refine ⟨fun _ => ?_, fun h => absurd h (by decide)⟩ | refine ⟨fun h => absurd h (by decide), fun _ => ?_⟩)
      refine mg_cv (r176_0 d) (by omega) ?_
      repeat (first | refine ⟨_, mg_Fs rfl rfl, ?_⟩ | refine ⟨_, mg_Fd rfl rfl, ?_⟩ | refine ⟨Or.inl rfl, ?_⟩ | refine ⟨Or.inr ⟨_, rfl⟩, ?_⟩ | refine ⟨fun _ => ?_, fun h => absurd h (by decide)⟩ | refine ⟨fun h => absurd h (by decide), fun _ => ?_⟩)
      refine mg_m_mono (r185A d hT) (by omega) ?_
      rintro o q G1 ⟨rfl, rfl, hT1, hF1, h10⟩
      have hI1 := hT1.I
      repeat (first | refine ⟨_, mg_Fs rfl rfl, ?_⟩ | refine ⟨_, mg_Fd rfl rfl, ?_⟩ | refine ⟨Or.inl rfl, ?_⟩ | refine ⟨Or.inr ⟨_, rfl⟩, ?_⟩ | refine ⟨fun _ => ?_, fun h => absurd h (by decide)⟩ | refine ⟨fun h => absurd h (by decide), fun _ => ?_⟩)
      refine ⟨_, _, 18 + i, mg_Ai rfl (by decide), mg_ixE (by rw [Int32.ofNat_add]; rfl) (by omega), by omega, ?_⟩
      rw [hI1.p hi]
      repeat (first | refine ⟨_, mg_Fs rfl rfl, ?_⟩ | refine ⟨_, mg_Fd rfl rfl, ?_⟩ | refine ⟨Or.inl rfl, ?_⟩ | refine ⟨Or.inr ⟨_, rfl⟩, ?_⟩ | refine ⟨fun _ => ?_, fun h => absurd h (by decide)⟩ | refine ⟨fun h => absurd h (by decide), fun _ => ?_⟩)
      refine ⟨2232, 18 + i, rfl, mg_ixE (by rw [Int32.ofNat_add]; rfl) (by omega), by omega, Or.inl rfl, rfl, rfl, h10, ?_, hF1.tr (rF.i _ _ _ (by decide))⟩
      have ne : ∀ k, k ≠ 18 + i → (mg_sI G1 149 (18 + i) (Int32.ofNat j)).1 149 k = G1.1 149 k := fun k hk => mg_sI_ne _ _ _ _ hk
      refine hT1.r0 (r0.i G1 _ (by omega)) ⟨bA0 ?_ ?_ ?_ ?_ ?_ ?_ ?_ ?_, setP_W hI.W _ _ (by omega)⟩
      · rw [ne 0 (by omega)]; exact hI1.v
      · rw [ne 1 (by omega)]; exact hI1.f
      · intro k hk; have hk : k < aV (sA S) := hk; rw [ne _ (by omega)]; exact hI1.o hk
      · intro k hk; have hk : k < aV (sA S) := hk; rw [ne _ (by omega)]; exact hI1.c hk
      · intro k hk
        have hk : k < aV (sA S) := hk
        show _ = mg_u (aP (sA S)) i (Int32.ofNat j) k
        by_cases e : k = i
        · subst e
          rw [mg_sI_eq, mg_u_eq]
        · rw [ne _ (by omega), mg_u_ne _ _ e]
          exact hI1.p hk
      · intro k hk; have hk : k < aV (sA S) := hk; exact ⟨by rw [ne _ (by omega)]; exact (hI1.vn hk).1, fun l c hl => by rw [ne _ (by omega)]; exact (hI1.vn hk).2 l c hl⟩
      · intro k hk; have hk : k < aF (sA S) := hk; exact ⟨by rw [ne _ (by omega)]; exact (hI1.fn hk).1, fun l c hl => by rw [ne _ (by omega)]; exact (hI1.fn hk).2 l c hl⟩
      · intro k hk; exact hI1.t hk
theorem r321 (d : Nat) (hT : rT G S) : mg_m (mg_KM scr t) (d + 4) 321 [.ref 148] G (rAp G (p321 S)) := by
  obtain ⟨u1, u2, u3⟩ := hT.2.2.1
  unfold p321 rAp
  by_cases h0 : (sU S).length = 0
  · rw [List.length_eq_zero_iff.mp h0]
    rw [h0] at u1
    refine mg_me [] 90 my_321 ms_321 (Nat.le_of_ble_eq_true rfl) ?_
    refine ⟨_, mg_Fe u1 rfl rfl, ?_⟩
    repeat (first | refine ⟨_, mg_Fs rfl rfl, ?_⟩ | refine ⟨_, mg_Fd rfl rfl, ?_⟩ | refine ⟨Or.inl rfl, ?_⟩ | refine ⟨Or.inr ⟨_, rfl⟩, ?_⟩ | refine ⟨fun _ => ?_, fun h => absurd h (by decide)⟩ | refine ⟨fun h => absurd h (by decide), fun _ => ?_⟩)
    refine mg_cv (r176_1 d _ _) (by omega) ?_
    repeat (first | refine ⟨_, mg_Fs rfl rfl, ?_⟩ | refine ⟨_, mg_Fd rfl rfl, ?_⟩ | refine ⟨Or.inl rfl, ?_⟩ | refine ⟨Or.inr ⟨_, rfl⟩, ?_⟩ | refine ⟨fun _ => ?_, fun h => absurd h (by decide)⟩ | refine ⟨fun h => absurd h (by decide), fun _ => ?_⟩)
    exact rA_x hT rfl
  · obtain ⟨n, hn⟩ : ∃ n, (sU S).length = n + 1 := ⟨(sU S).length - 1, by omega⟩
    obtain ⟨B, hB⟩ : ∃ B, (sU S)[n]? = some B := ⟨_, List.getElem?_eq_getElem (by omega)⟩
    have el : (sU S).getLast? = some B := by rw [List.getLast?_eq_getElem?, hn]; exact hB
    rw [el, hn]
    rw [hn] at u1
    have hBs := u3 n B hB
    have u1' : (mg_sF G 148 10 (.int 0)).2.2.2.2 148 3 = .int (Int32.ofNat (n + 1)) := (mg_sF_ne _ _ (by decide)).trans u1
    have hT1 := hT.s10 (.int 0)
    have u1c : (cpm (mg_sF G 148 10 (.int 0)) (n + 1) 0).2.2.2.2 148 3 = .int (Int32.ofNat (n + 1)) := u1'
    refine mg_me [] 90 my_321 ms_321 (Nat.le_of_ble_eq_true rfl) ?_
    refine ⟨_, mg_Fe u1 rfl rfl, fun _ => ?_, fun h => ?_⟩
    · repeat (first | refine ⟨_, mg_Fs rfl rfl, ?_⟩ | refine ⟨_, mg_Fd rfl rfl, ?_⟩ | refine ⟨Or.inl rfl, ?_⟩ | refine ⟨Or.inr ⟨_, rfl⟩, ?_⟩ | refine ⟨fun _ => ?_, fun h => absurd h (by decide)⟩ | refine ⟨fun h => absurd h (by decide), fun _ => ?_⟩)
      refine mg_cv (r176_0 d) (by omega) ?_
      refine ⟨fun _ => ⟨_, mg_Fe u1' rfl rfl, ?_⟩, fun h => absurd rfl h⟩
      repeat (first | refine ⟨_, mg_Fs rfl rfl, ?_⟩ | refine ⟨_, mg_Fd rfl rfl, ?_⟩ | refine ⟨Or.inl rfl, ?_⟩ | refine ⟨Or.inr ⟨_, rfl⟩, ?_⟩ | refine ⟨fun _ => ?_, fun h => absurd h (by decide)⟩ | refine ⟨fun h => absurd h (by decide), fun _ => ?_⟩)
      refine mg_cn (r184m d (n + 1) 0 (by omega) (by decide)) (by omega) ?_
      refine ⟨_, mg_Fe u1c rfl rfl, rfl, _, rfl, rfl, _, mg_Fe ((mg_sF_at _ _ _ _).trans (congrArg Value.int (mg_dec n))) rfl rfl, Or.inl rfl, rfl, rfl, ?_, ?_, ?_⟩
      · exact (mg_sF_ne _ _ (by decide)).trans (mg_sF_at G 148 10 (.int 0))
      · have hY : rY (mg_sF G 148 10 (.int 0)) (mg_sF (cpm (mg_sF G 148 10 (.int 0)) (n + 1) 0) 148 3 (.int (Int32.ofNat (n + 1) - Int32.ofInt 1))) := (rY.cp _ _ _).tr (rY.s3 _ _)
        obtain ⟨h1, h2, h3, h4, h5, ⟨h6, h7⟩, h9⟩ := hT1
        obtain ⟨y1, y2, y3, y4, y5⟩ := id hY
        refine ⟨fun v hv => by rw [y2 154 (by decide)]; exact h1 v hv, ((hBs.sF _ _ _).to).sF _ _ _, ⟨?_, ?_, fun i C hi => ?_⟩, fun s hs => ⟨by rw [y1 151 (by decide)]; exact (h4 s hs).1, fun C hC => (((h4 s hs).2 C hC).ot (by omega)).sF _ _ _⟩, ⟨(y5 148 5 (by decide)).trans h5.1, h5.2.1, fun i c hi => by rw [y1 152 (by decide)]; exact h5.2.2 i c hi⟩, ⟨(y5 148 6 (by decide)).trans h6, (y5 148 7 (by decide)).trans h7⟩, ⟨(y5 148 9 (by decide)).trans h9.1, h9.2.1, fun i c hi => by rw [y1 153 (by decide)]; exact h9.2.2 i c hi⟩⟩
        · show _ = Value.int (Int32.ofNat (sU S).dropLast.length)
          rw [mg_sF_at]
          refine (congrArg Value.int (mg_dec n)).trans ?_
          rw [List.length_dropLast, hn]
          rfl
        · show (sU S).dropLast.length ≤ 8
          rw [List.length_dropLast]
          omega
        · have hi : (sU S).dropLast[i]? = some C := hi
          rw [List.getElem?_dropLast] at hi
          split at hi
          · exact (((u3 i C hi).sF _ _ _).ot (by omega)).sF _ _ _
          · cases hi
      · exact ((rF.s _ _ _).tr (rY.cp _ _ _).F).tr (rF.s _ _ _)
    · have := (mg_eqN (a := n + 1) (b := 0) (by omega) (by decide)).mp h
      omega
theorem r322 (d : Nat) (hT : rT G S) (s : Int32) : mg_m (mg_KM scr t) (d + aV (sA S) + 8) 322 [.ref 148, .int s] G (rAp G (p322 S s)) := by
  unfold p322 rAp
  cases hs : vi s 2 with
  | none =>
    refine mg_me [] 90 my_322 ms_322 (Nat.le_of_ble_eq_true rfl) ?_
    repeat (first | refine ⟨_, mg_Fs rfl rfl, ?_⟩ | refine ⟨_, mg_Fd rfl rfl, ?_⟩ | refine ⟨Or.inl rfl, ?_⟩ | refine ⟨Or.inr ⟨_, rfl⟩, ?_⟩ | refine ⟨fun _ => ?_, fun h => absurd h (by decide)⟩ | refine ⟨fun h => absurd h (by decide), fun _ => ?_⟩)
    refine mg_cv (r177x d hs (by decide) (by decide)) (by omega) ?_
    repeat (first | refine ⟨_, mg_Fs rfl rfl, ?_⟩ | refine ⟨_, mg_Fd rfl rfl, ?_⟩ | refine ⟨Or.inl rfl, ?_⟩ | refine ⟨Or.inr ⟨_, rfl⟩, ?_⟩ | refine ⟨fun _ => ?_, fun h => absurd h (by decide)⟩ | refine ⟨fun h => absurd h (by decide), fun _ => ?_⟩)
    refine mg_cv (r176_1 d _ _) (by omega) ?_
    repeat (first | refine ⟨_, mg_Fs rfl rfl, ?_⟩ | refine ⟨_, mg_Fd rfl rfl, ?_⟩ | refine ⟨Or.inl rfl, ?_⟩ | refine ⟨Or.inr ⟨_, rfl⟩, ?_⟩ | refine ⟨fun _ => ?_, fun h => absurd h (by decide)⟩ | refine ⟨fun h => absurd h (by decide), fun _ => ?_⟩)
    exact rA_x hT rfl
  | some i =>
    obtain ⟨rfl, hi⟩ := vi_s hs
    have hT1 := hT.s10 (.int 0)
    have hcp : mg_m (mg_KM scr t) (d + 1) 184 [.ref 148, .int (Int32.ofInt 0), .int ((Int8.ofInt 9).toInt32 + Int32.ofNat i)] (mg_sF G 148 10 (.int 0)) (mg_n (cpm (mg_sF G 148 10 (.int 0)) 0 (9 + i))) := by
      rw [show (Int8.ofInt 9).toInt32 + Int32.ofNat i = Int32.ofNat (9 + i) from by rw [Int32.ofNat_add]; rfl]
      exact r184m d 0 (9 + i) (by decide) (by omega)
    refine mg_me [] 90 my_322 ms_322 (Nat.le_of_ble_eq_true rfl) ?_
    repeat (first | refine ⟨_, mg_Fs rfl rfl, ?_⟩ | refine ⟨_, mg_Fd rfl rfl, ?_⟩ | refine ⟨Or.inl rfl, ?_⟩ | refine ⟨Or.inr ⟨_, rfl⟩, ?_⟩ | refine ⟨fun _ => ?_, fun h => absurd h (by decide)⟩ | refine ⟨fun h => absurd h (by decide), fun _ => ?_⟩)
    refine mg_cv (r177y d hs (by decide) (by decide)) (by omega) ?_
    repeat (first | refine ⟨_, mg_Fs rfl rfl, ?_⟩ | refine ⟨_, mg_Fd rfl rfl, ?_⟩ | refine ⟨Or.inl rfl, ?_⟩ | refine ⟨Or.inr ⟨_, rfl⟩, ?_⟩ | refine ⟨fun _ => ?_, fun h => absurd h (by decide)⟩ | refine ⟨fun h => absurd h (by decide), fun _ => ?_⟩)
    refine mg_cv (r176_0 d) (by omega) ?_
    repeat (first | refine ⟨_, mg_Fs rfl rfl, ?_⟩ | refine ⟨_, mg_Fd rfl rfl, ?_⟩ | refine ⟨Or.inl rfl, ?_⟩ | refine ⟨Or.inr ⟨_, rfl⟩, ?_⟩ | refine ⟨fun _ => ?_, fun h => absurd h (by decide)⟩ | refine ⟨fun h => absurd h (by decide), fun _ => ?_⟩)
    refine mg_cn (hcp) (by omega) ?_
    refine ⟨_, mg_Fs rfl rfl, 3, 2, i, rfl, mg_ixN (by omega), hi, Or.inr rfl, ?_⟩
    have hY := rY.cp (mg_sF G 148 10 (.int 0)) 0 (9 + i)
    obtain ⟨h1, h2, h3, h4, h5, ⟨h6, h7⟩, h9⟩ := id hT1
    have hT2 : rT (mg_sI (cpm (mg_sF G 148 10 (.int 0)) 0 (9 + i)) 151 i 1) (sA S, sU S, mg_u (sV S) i (some (sA S)), S.2.2.2) := by
      have y1 : ∀ b, b ≠ 149 → b ≠ 151 → (mg_sI (cpm (mg_sF G 148 10 (.int 0)) 0 (9 + i)) 151 i 1).1 b = (mg_sF G 148 10 (.int 0)).1 b := fun b b1 b2 => (mg_u2_ne _ _ _ b2).trans (hY.1 b b1)
      have bk : ∀ {c : Nat} {B : a_A}, bS (cpm (mg_sF G 148 10 (.int 0)) 0 (9 + i)) c B → bS (mg_sI (cpm (mg_sF G 148 10 (.int 0)) 0 (9 + i)) 151 i 1) c B := fun {c B} h => ⟨h.1.c (mg_u2_ne (cpm (mg_sF G 148 10 (.int 0)) 0 (9 + i)).1 i 1 (show (149 : Nat) ≠ 151 by decide)) rfl, h.2⟩
      refine ⟨h1, bk (h2.ot (by omega)), ⟨h3.1, h3.2.1, fun k B hk => bk ((h3.2.2 k B hk).ot (by have hk : (sU S)[k]? = some B := hk; have := (List.getElem?_eq_some_iff.mp hk).1; have := h3.2.1; omega))⟩, fun s hs2 => ?_, ⟨h5.1, h5.2.1, fun k c hk => by rw [y1 152 (by decide) (by decide)]; exact h5.2.2 k c hk⟩, ⟨h6, h7⟩, ⟨h9.1, h9.2.1, fun k c hk => by rw [y1 153 (by decide) (by decide)]; exact h9.2.2 k c hk⟩⟩
      show _ = b2 (mg_u (sV S) i (some (sA S)) s).isSome ∧ ∀ B, mg_u (sV S) i (some (sA S)) s = some B → _
      by_cases e : s = i
      · subst e
        rw [mg_u_eq, mg_sI_eq]
        refine ⟨rfl, fun B hB => ?_⟩
        have := Option.some.inj hB
        subst this
        exact bk h2.to
      · rw [mg_u_ne _ _ e, mg_sI_ne _ _ _ _ e]
        exact ⟨by rw [hY.1 151 (by decide)]; exact (h4 s hs2).1, fun B hB => bk (((h4 s hs2).2 B hB).ot (by omega))⟩
    have ea : aV (sA ((sA S, sU S, mg_u (sV S) i (some (sA S)), S.2.2.2) : a_S)) = aV (sA S) := rfl
    repeat (first | refine ⟨_, mg_Fs rfl rfl, ?_⟩ | refine ⟨_, mg_Fd rfl rfl, ?_⟩ | refine ⟨Or.inl rfl, ?_⟩ | refine ⟨Or.inr ⟨_, rfl⟩, ?_⟩ | refine ⟨fun _ => ?_, fun h => absurd h (by decide)⟩ | refine ⟨fun h => absurd h (by decide), fun _ => ?_⟩)
    refine mg_m_mono (r201B d hT2 (((rF.s G 10 _).tr hY.F).tr (rF.i _ _ _ (by decide))) (mg_sF_at G 148 10 (.int 0))) (by omega) ?_
    rintro o q G3 ⟨rfl, rfl, hA⟩
    exact ⟨Or.inl rfl, rfl, rfl, hA⟩
theorem r323 (d : Nat) (hT : rT G S) (s : Int32) : mg_m (mg_KM scr t) (d + 16) 323 [.ref 148, .int s] G (rAp G (p323 S s)) := by
  unfold p323 rAp
  cases hs : vi s 2 with
  | none =>
    refine mg_me [] 90 my_323 ms_323 (Nat.le_of_ble_eq_true rfl) ?_
    repeat (first | refine ⟨_, mg_Fs rfl rfl, ?_⟩ | refine ⟨_, mg_Fd rfl rfl, ?_⟩ | refine ⟨Or.inl rfl, ?_⟩ | refine ⟨Or.inr ⟨_, rfl⟩, ?_⟩ | refine ⟨fun _ => ?_, fun h => absurd h (by decide)⟩ | refine ⟨fun h => absurd h (by decide), fun _ => ?_⟩)
    refine mg_cv (r177x d hs (by decide) (by decide)) (by omega) ?_
    repeat (first | refine ⟨_, mg_Fs rfl rfl, ?_⟩ | refine ⟨_, mg_Fd rfl rfl, ?_⟩ | refine ⟨Or.inl rfl, ?_⟩ | refine ⟨Or.inr ⟨_, rfl⟩, ?_⟩ | refine ⟨fun _ => ?_, fun h => absurd h (by decide)⟩ | refine ⟨fun h => absurd h (by decide), fun _ => ?_⟩)
    repeat (first | refine ⟨_, mg_Fs rfl rfl, ?_⟩ | refine ⟨_, mg_Fd rfl rfl, ?_⟩ | refine ⟨Or.inl rfl, ?_⟩ | refine ⟨Or.inr ⟨_, rfl⟩, ?_⟩ | refine ⟨fun _ => ?_, fun h => absurd h (by decide)⟩ | refine ⟨fun h => absurd h (by decide), fun _ => ?_⟩)
    refine mg_cv (r176_1 d _ _) (by omega) ?_
    repeat (first | refine ⟨_, mg_Fs rfl rfl, ?_⟩ | refine ⟨_, mg_Fd rfl rfl, ?_⟩ | refine ⟨Or.inl rfl, ?_⟩ | refine ⟨Or.inr ⟨_, rfl⟩, ?_⟩ | refine ⟨fun _ => ?_, fun h => absurd h (by decide)⟩ | refine ⟨fun h => absurd h (by decide), fun _ => ?_⟩)
    exact rA_x hT rfl
  | some i =>
    obtain ⟨rfl, hi⟩ := vi_s hs
    have hv := hT.2.2.2.1 i hi
    have hT1 := hT.s10 (.int 0)
    cases hB : sV S i with
    | none =>
      show mg_m _ _ 323 _ _ (rA G (match sV S i with
        | none => (S, ((2 : Int32), (0 : Int32)))
        | some B => ((B, [], S.2.2), (0, Int32.ofNat (aN B).length))).1 (match sV S i with
        | none => (S, ((2 : Int32), (0 : Int32)))
        | some B => ((B, [], S.2.2), (0, Int32.ofNat (aN B).length))).2)
      rw [hB] at hv ⊢
      have e1 : G.1 151 i = 0 := hv.1
      refine mg_me [] 90 my_323 ms_323 (Nat.le_of_ble_eq_true rfl) ?_
      repeat (first | refine ⟨_, mg_Fs rfl rfl, ?_⟩ | refine ⟨_, mg_Fd rfl rfl, ?_⟩ | refine ⟨Or.inl rfl, ?_⟩ | refine ⟨Or.inr ⟨_, rfl⟩, ?_⟩ | refine ⟨fun _ => ?_, fun h => absurd h (by decide)⟩ | refine ⟨fun h => absurd h (by decide), fun _ => ?_⟩)
      refine mg_cv (r177y d hs (by decide) (by decide)) (by omega) ?_
      repeat (first | refine ⟨_, mg_Fs rfl rfl, ?_⟩ | refine ⟨_, mg_Fd rfl rfl, ?_⟩ | refine ⟨Or.inl rfl, ?_⟩ | refine ⟨Or.inr ⟨_, rfl⟩, ?_⟩ | refine ⟨fun _ => ?_, fun h => absurd h (by decide)⟩ | refine ⟨fun h => absurd h (by decide), fun _ => ?_⟩)
      refine ⟨3, 2, _, i, mg_Az rfl (by decide), Or.inr rfl, mg_ixN (by omega), hi, ?_⟩
      rw [e1]
      repeat (first | refine ⟨_, mg_Fs rfl rfl, ?_⟩ | refine ⟨_, mg_Fd rfl rfl, ?_⟩ | refine ⟨Or.inl rfl, ?_⟩ | refine ⟨Or.inr ⟨_, rfl⟩, ?_⟩ | refine ⟨fun _ => ?_, fun h => absurd h (by decide)⟩ | refine ⟨fun h => absurd h (by decide), fun _ => ?_⟩)
      refine mg_cv (r176_2 d _) (by omega) ?_
      repeat (first | refine ⟨_, mg_Fs rfl rfl, ?_⟩ | refine ⟨_, mg_Fd rfl rfl, ?_⟩ | refine ⟨Or.inl rfl, ?_⟩ | refine ⟨Or.inr ⟨_, rfl⟩, ?_⟩ | refine ⟨fun _ => ?_, fun h => absurd h (by decide)⟩ | refine ⟨fun h => absurd h (by decide), fun _ => ?_⟩)
      exact rA_x hT rfl
    | some B =>
      show mg_m _ _ 323 _ _ (rA G (match sV S i with
        | none => (S, ((2 : Int32), (0 : Int32)))
        | some B => ((B, [], S.2.2), (0, Int32.ofNat (aN B).length))).1 (match sV S i with
        | none => (S, ((2 : Int32), (0 : Int32)))
        | some B => ((B, [], S.2.2), (0, Int32.ofNat (aN B).length))).2)
      rw [hB] at hv ⊢
      have e1 : G.1 151 i = 1 := hv.1
      have hcp : mg_m (mg_KM scr t) (d + 1) 184 [.ref 148, .int ((Int8.ofInt 9).toInt32 + Int32.ofNat i), .int (Int32.ofInt 0)] (mg_sF G 148 10 (.int 0)) (mg_n (cpm (mg_sF G 148 10 (.int 0)) (9 + i) 0)) := by
        rw [show (Int8.ofInt 9).toInt32 + Int32.ofNat i = Int32.ofNat (9 + i) from by rw [Int32.ofNat_add]; rfl]
        exact r184m d (9 + i) 0 (by omega) (by decide)
      have hY : rY (mg_sF G 148 10 (.int 0)) (mg_sF (cpm (mg_sF G 148 10 (.int 0)) (9 + i) 0) 148 3 (.int (Int32.ofInt 0))) := (rY.cp _ _ _).tr (rY.s3 _ _)
      have hBs := ((hv.2 B rfl).sF 148 10 (.int 0)).to (b := 0)
      have h8 : aV B ≤ 8 := hBs.2.2.1.2.2.2
      have hT2 : rT (mg_sF (cpm (mg_sF G 148 10 (.int 0)) (9 + i) 0) 148 3 (.int (Int32.ofInt 0))) (B, [], S.2.2) := by
        obtain ⟨h1, h2, h3, h4, h5, ⟨h6, h7⟩, h9⟩ := id hT1
        obtain ⟨y1, y2, y3, y4, y5⟩ := id hY
        exact ⟨fun v hv => by rw [y2 154 (by decide)]; exact h1 v hv, hBs.sF _ _ _, ⟨mg_sF_at _ _ _ _, (show ([] : List a_A).length ≤ 8 from by decide), fun i C hi => by have hi : ([] : List a_A)[i]? = some C := hi; simp at hi⟩, fun s hs => ⟨by rw [y1 151 (by decide)]; exact (h4 s hs).1, fun C hC => (((h4 s hs).2 C hC).ot (by omega)).sF _ _ _⟩, ⟨(y5 148 5 (by decide)).trans h5.1, h5.2.1, fun i c hi => by rw [y1 152 (by decide)]; exact h5.2.2 i c hi⟩, ⟨(y5 148 6 (by decide)).trans h6, (y5 148 7 (by decide)).trans h7⟩, ⟨(y5 148 9 (by decide)).trans h9.1, h9.2.1, fun i c hi => by rw [y1 153 (by decide)]; exact h9.2.2 i c hi⟩⟩
      refine mg_me [] 90 my_323 ms_323 (Nat.le_of_ble_eq_true rfl) ?_
      repeat (first | refine ⟨_, mg_Fs rfl rfl, ?_⟩ | refine ⟨_, mg_Fd rfl rfl, ?_⟩ | refine ⟨Or.inl rfl, ?_⟩ | refine ⟨Or.inr ⟨_, rfl⟩, ?_⟩ | refine ⟨fun _ => ?_, fun h => absurd h (by decide)⟩ | refine ⟨fun h => absurd h (by decide), fun _ => ?_⟩)
      refine mg_cv (r177y d hs (by decide) (by decide)) (by omega) ?_
      repeat (first | refine ⟨_, mg_Fs rfl rfl, ?_⟩ | refine ⟨_, mg_Fd rfl rfl, ?_⟩ | refine ⟨Or.inl rfl, ?_⟩ | refine ⟨Or.inr ⟨_, rfl⟩, ?_⟩ | refine ⟨fun _ => ?_, fun h => absurd h (by decide)⟩ | refine ⟨fun h => absurd h (by decide), fun _ => ?_⟩)
      refine ⟨3, 2, _, i, mg_Az rfl (by decide), Or.inr rfl, mg_ixN (by omega), hi, ?_⟩
      rw [e1]
      repeat (first | refine ⟨_, mg_Fs rfl rfl, ?_⟩ | refine ⟨_, mg_Fd rfl rfl, ?_⟩ | refine ⟨Or.inl rfl, ?_⟩ | refine ⟨Or.inr ⟨_, rfl⟩, ?_⟩ | refine ⟨fun _ => ?_, fun h => absurd h (by decide)⟩ | refine ⟨fun h => absurd h (by decide), fun _ => ?_⟩)
      refine mg_cv (r176_0 d) (by omega) ?_
      repeat (first | refine ⟨_, mg_Fs rfl rfl, ?_⟩ | refine ⟨_, mg_Fd rfl rfl, ?_⟩ | refine ⟨Or.inl rfl, ?_⟩ | refine ⟨Or.inr ⟨_, rfl⟩, ?_⟩ | refine ⟨fun _ => ?_, fun h => absurd h (by decide)⟩ | refine ⟨fun h => absurd h (by decide), fun _ => ?_⟩)
      refine mg_cn (hcp) (by omega) ?_
      refine ⟨rfl, _, rfl, rfl, ?_⟩
      have ea : aV (sA ((B, [], S.2.2) : a_S)) = aV B := rfl
      repeat (first | refine ⟨_, mg_Fs rfl rfl, ?_⟩ | refine ⟨_, mg_Fd rfl rfl, ?_⟩ | refine ⟨Or.inl rfl, ?_⟩ | refine ⟨Or.inr ⟨_, rfl⟩, ?_⟩ | refine ⟨fun _ => ?_, fun h => absurd h (by decide)⟩ | refine ⟨fun h => absurd h (by decide), fun _ => ?_⟩)
      refine mg_m_mono (r201B d hT2 ((rF.s G 10 _).tr hY.F) ((mg_sF_ne _ _ (by decide)).trans (mg_sF_at G 148 10 (.int 0)))) (by omega) ?_
      rintro o q G3 ⟨rfl, rfl, hA⟩
      exact ⟨Or.inl rfl, rfl, rfl, hA⟩
end RM
