/-! REFERENCE: build, over a state -/
theorem a_all_c {ord : Nat → Nat} {nv : Nat} {tb tb' : Nat → a_T} : ∀ {n : Nat}, (∀ f, f < n → tb f = tb' f) → a_all ord nv tb n = a_all ord nv tb' n
  | 0, _ => rfl
  | n + 1, h => by
    show a_vis ord nv (nv + 1) (tb n) (a_all ord nv tb n) = a_vis ord nv (nv + 1) (tb' n) (a_all ord nv tb' n)
    rw [a_all_c (fun f hf => h f (by omega)), h n (by omega)]
def aN (A : a_A) : List a_T := a_all (aD A) (aV A) (aT A) (aF A)
def aG (A : a_A) : a_Gr := a_gr (aD A) (aV A) (aN A)
def aR (A : a_A) (f : Nat) : Nat := a_ix (aN A) (aT A f)
/-- what building changes -/
def rX (G G' : mg_G) : Prop := (∀ b, b < 155 ∨ 168 < b → G'.1 b = G.1 b ∧ G'.2.1 b = G.2.1 b) ∧ G'.2.2.1 = G.2.2.1 ∧ G'.2.2.2.1 = G.2.2.2.1 ∧ ∀ b k, ¬ (b = 148 ∧ (k = 16 ∨ k = 28 ∨ k = 31)) → G'.2.2.2.2 b k = G.2.2.2.2 b k
theorem rX.rf (G : mg_G) : rX G G := ⟨fun _ _ => ⟨rfl, rfl⟩, rfl, rfl, fun _ _ _ => rfl⟩
theorem rX.tr {G G' G'' : mg_G} (h : rX G G') (h2 : rX G' G'') : rX G G'' :=
  ⟨fun b hb => ⟨(h2.1 b hb).1.trans (h.1 b hb).1, (h2.1 b hb).2.trans (h.1 b hb).2⟩, h2.2.1.trans h.2.1, h2.2.2.1.trans h.2.2.1, fun b k hb => (h2.2.2.2 b k hb).trans (h.2.2.2 b k hb)⟩
theorem rX.u {G G' : mg_G} (h : rX G G') {z : Nat} (f : Nat → Int32) (hz : 155 ≤ z ∧ z ≤ 168) : rX G (mg_u G'.1 z f, G'.2) :=
  ⟨fun b hb => ⟨(mg_u_ne _ _ (by omega)).trans (h.1 b hb).1, (h.1 b hb).2⟩, h.2⟩
theorem rX.i {G G' : mg_G} (h : rX G G') {z k : Nat} (x : Int32) (hz : 155 ≤ z ∧ z ≤ 168) : rX G (mg_sI G' z k x) :=
  ⟨fun b hb => ⟨(mg_u2_ne _ _ _ (by omega)).trans (h.1 b hb).1, (h.1 b hb).2⟩, h.2⟩
theorem rX.j {G G' : mg_G} (h : rX G G') {z k : Nat} (x : Int64) (hz : 155 ≤ z ∧ z ≤ 168) : rX G (mg_sJ G' z k x) :=
  ⟨fun b hb => ⟨(h.1 b hb).1, (mg_u2_ne _ _ _ (by omega)).trans (h.1 b hb).2⟩, h.2⟩
theorem rX.uJ {G G' : mg_G} (h : rX G G') {z : Nat} (f : Nat → Int64) (hz : 155 ≤ z ∧ z ≤ 168) : rX G (G'.1, mg_u G'.2.1 z f, G'.2.2) :=
  ⟨fun b hb => ⟨(h.1 b hb).1, (mg_u_ne _ _ (by omega)).trans (h.1 b hb).2⟩, h.2⟩
theorem rX.s {G G' : mg_G} (h : rX G G') {k : Nat} (x : Value) (hk : k = 16 ∨ k = 28 ∨ k = 31) : rX G (mg_sF G' 148 k x) :=
  ⟨h.1, h.2.1, h.2.2.1, fun b j hb => ((mg_u2_at _ _ _ _ _ _).trans (if_neg (fun q => hb ⟨q.1, by omega⟩))).trans (h.2.2.2 b j hb)⟩
theorem rX.W {G G' G'' : mg_G} (h : rX G G') (h2 : rW G' G'') : rX G G'' :=
  ⟨fun b hb => ⟨(h2.1 b (by omega) (by omega) (by omega) (by omega) (by omega)).trans (h.1 b hb).1, (h2.2.1 b (by omega)).trans (h.1 b hb).2⟩, h2.2.2.1.trans h.2.1, h2.2.2.2.1.trans h.2.2.1, fun b k hb => (h2.2.2.2.2 b k (fun q => hb ⟨q.1, Or.inl q.2⟩)).trans (h.2.2.2 b k hb)⟩
theorem bA.c {G G' : mg_G} {p q : Nat} {A : a_A} (h : bA G p q A) (e1 : G'.1 149 = G.1 149) (e2 : G'.2.1 150 = G.2.1 150) : bA G' p q A := by
  unfold bA rNm at *
  rw [e1, e2]
  exact h
theorem rX.I {G G' : mg_G} {A : a_A} (h : rX G G') (hI : rI G A) : rI G' A :=
  ⟨fun v hv => by rw [(h.1 154 (by omega)).2]; exact hI.1 v hv, hI.2.1.c (h.1 149 (by omega)).1 (h.1 150 (by omega)).2, hI.2.2⟩
/-- what build leaves -/
def rB (G : mg_G) (A : a_A) (G' : mg_G) : Prop := rX G G' ∧ rGr G' (aD A) (aG A) ∧ gW (aV A) (aG A) ∧ (∀ f, f < aF A → G'.1 159 f = Int32.ofNat (aR A f) ∧ aR A f < gN (aG A)) ∧ (aN A).length ≤ 626
theorem aW.o8 {A : a_A} (h : aW A) : ∀ j, j < aV A → aD A j < 8 := fun j hj => by
  have h1 := h.2.1.1 j hj
  have h2 := h.2.1.2.2.2
  omega
theorem aW.N {A : a_A} (h : aW A) : (aN A).length ≤ 626 := a_all_626 h.2.1 h.2.2.1 h.2.2.2.1
section RM
variable {scr : Nat × (Nat → Int32)} {t : List mg_S} {G : mg_G} {A : a_A}
theorem r201A (d : Nat) (hI : rI G A) : mg_m (mg_KM scr t) (d + aV A + 7) 201 [.ref 148] G (fun o q G' => q = 0 ∧ o = .inl (some (.int (Int32.ofNat (aN A).length))) ∧ rB G A G') := by
  have hW := hI.W
  have h8 := hI.v8
  have hN := hW.N
  have et : ∀ f, f < aF A → a_tb G f = aT A f := fun f hf => hI.t hf
  have eN : a_all (aD A) (aV A) (a_tb G) (aF A) = aN A := a_all_c et
  have hS : rS G (aD A) (aV A) (aF A) := ⟨hI.1, hI.v, by omega, hI.f, hI.f12, fun j hj => ⟨hI.o hj, hW.o8 j hj⟩⟩
  have hU : rU G (aD A) (aV A) (aF A) := fun f hf v hv h => by
    rw [et f hf] at h
    refine hW.2.1.2.1 v (Decidable.byContradiction fun q => ?_)
    rw [hW.2.2.2.1 f hf v hv (by omega)] at h
    cases h
  refine mg_m_mono (r201 (scr := scr) (t := t) d hS hU (by rw [eN]; omega)) (Nat.le_refl _) ?_
  rintro o q G' ⟨rfl, rfl, hA⟩
  have hgr := hA.gr
  have hcl := hA.cl
  have hA1 := hA.1
  have hA3 := hA.2.2.1
  rw [show a_tb (rO G (aV A)) = a_tb G from rfl, eN] at hgr hcl hA3 ⊢
  have nd : (aN A).Nodup := by rw [← eN]; exact a_all_nd _ _ _ _
  have nl : a_zero ∉ aN A ∧ a_one ∉ aN A := by rw [← eN]; exact a_all_nl _ _ _ _
  refine ⟨rfl, rfl, ((rX.rf G).u (fun j => if j < aV A then G.1 149 (2 + j) else G.1 161 j) (z := 161) (by omega)).W hA1, hgr, a_gr_W hW.o8 (by omega) nd nl hN hcl, fun f hf => ?_, hN⟩
  obtain ⟨r, e1, e2⟩ := hA3 f hf
  rw [et f hf] at e2
  have e3 : aR A f = r := a_nd_ix e2 nd nl
  rw [e3]
  exact ⟨e1, a_nd_lt e2⟩
end RM
def q275 (A : a_A) (f x : Int32) : qR := qF A f fun f => match vi x 2 with
  | none => (2, 0)
  | some x => (0, g_pa (aG A) (Int32.ofNat x) (aV A) (aR A f))
def q277 (A : a_A) (f x : Int32) : qR := qF A f fun f => match vi x 2 with
  | none => (2, 0)
  | some x => (0, a_oi (g_sh (aG A) (Int32.ofNat x) (aV A) (aR A f)))
def q279 (A : a_A) (f : Int32) : qR := qF A f fun f => (0, Int32.ofNat (g_lo (aG A) (aV A) (aR A f)))
/-- the answer of a query that builds -/
def rQ (G : mg_G) (a : qR) : mg_Q := fun o q G' => q = 0 ∧ o = .inl (some (.int a.2)) ∧ rX (mg_sF G 148 10 (.int a.1)) G'
section RM
variable {scr : Nat × (Nat → Int32)} {t : List mg_S} {G : mg_G} {A : a_A}
theorem r275 (d : Nat) (hI : rI G A) (f x : Int32) : mg_m (mg_KM scr t) (d + aV A + 8) 275 [.ref 148, .int f, .int x] G (rQ G (q275 A f x)) := by
  have h8 := hI.v8
  have h12 := hI.f12
  unfold q275
  cases hf : vi f (aF A) with
  | none =>
    rw [qF_x hf]
    refine mg_me [] 120 my_275 ms_275 (Nat.le_of_ble_eq_true rfl) ?_
    repeat (first | refine ⟨_, mg_Fs rfl rfl, ?_⟩ | refine ⟨_, mg_Fd rfl rfl, ?_⟩ | refine ⟨Or.inl rfl, ?_⟩ | refine ⟨Or.inr ⟨_, rfl⟩, ?_⟩ | refine ⟨fun _ => ?_, fun h => absurd h (by decide)⟩ | refine ⟨fun h => absurd h (by decide), fun _ => ?_⟩)
    refine mg_cv (r181x d hI hf) (by omega) ?_
    repeat (first | refine ⟨_, mg_Fs rfl rfl, ?_⟩ | refine ⟨_, mg_Fd rfl rfl, ?_⟩ | refine ⟨Or.inl rfl, ?_⟩ | refine ⟨Or.inr ⟨_, rfl⟩, ?_⟩ | refine ⟨fun _ => ?_, fun h => absurd h (by decide)⟩ | refine ⟨fun h => absurd h (by decide), fun _ => ?_⟩)
    refine mg_cv (r177 d x 0 _ G) (by omega) ?_
    refine ⟨fun _ => ?_, fun _ => ?_⟩
    · repeat (first | refine ⟨_, mg_Fs rfl rfl, ?_⟩ | refine ⟨_, mg_Fd rfl rfl, ?_⟩ | refine ⟨Or.inl rfl, ?_⟩ | refine ⟨Or.inr ⟨_, rfl⟩, ?_⟩ | refine ⟨fun _ => ?_, fun h => absurd h (by decide)⟩ | refine ⟨fun h => absurd h (by decide), fun _ => ?_⟩)
      refine mg_cv (r176_1 d _ _) (by omega) ?_
      repeat (first | refine ⟨_, mg_Fs rfl rfl, ?_⟩ | refine ⟨_, mg_Fd rfl rfl, ?_⟩ | refine ⟨Or.inl rfl, ?_⟩ | refine ⟨Or.inr ⟨_, rfl⟩, ?_⟩ | refine ⟨fun _ => ?_, fun h => absurd h (by decide)⟩ | refine ⟨fun h => absurd h (by decide), fun _ => ?_⟩)
      exact ⟨rfl, rfl, rX.rf _⟩
    · repeat (first | refine ⟨_, mg_Fs rfl rfl, ?_⟩ | refine ⟨_, mg_Fd rfl rfl, ?_⟩ | refine ⟨Or.inl rfl, ?_⟩ | refine ⟨Or.inr ⟨_, rfl⟩, ?_⟩ | refine ⟨fun _ => ?_, fun h => absurd h (by decide)⟩ | refine ⟨fun h => absurd h (by decide), fun _ => ?_⟩)
      refine mg_cv (r176_1 d _ _) (by omega) ?_
      repeat (first | refine ⟨_, mg_Fs rfl rfl, ?_⟩ | refine ⟨_, mg_Fd rfl rfl, ?_⟩ | refine ⟨Or.inl rfl, ?_⟩ | refine ⟨Or.inr ⟨_, rfl⟩, ?_⟩ | refine ⟨fun _ => ?_, fun h => absurd h (by decide)⟩ | refine ⟨fun h => absurd h (by decide), fun _ => ?_⟩)
      exact ⟨rfl, rfl, rX.rf _⟩
  | some i =>
    obtain ⟨rfl, hi⟩ := vi_s hf
    rw [qF_y hf]
    cases hx : vi x 2 with
    | none =>
      refine mg_me [] 120 my_275 ms_275 (Nat.le_of_ble_eq_true rfl) ?_
      repeat (first | refine ⟨_, mg_Fs rfl rfl, ?_⟩ | refine ⟨_, mg_Fd rfl rfl, ?_⟩ | refine ⟨Or.inl rfl, ?_⟩ | refine ⟨Or.inr ⟨_, rfl⟩, ?_⟩ | refine ⟨fun _ => ?_, fun h => absurd h (by decide)⟩ | refine ⟨fun h => absurd h (by decide), fun _ => ?_⟩)
      refine mg_cv (r181y d hI hf) (by omega) ?_
      repeat (first | refine ⟨_, mg_Fs rfl rfl, ?_⟩ | refine ⟨_, mg_Fd rfl rfl, ?_⟩ | refine ⟨Or.inl rfl, ?_⟩ | refine ⟨Or.inr ⟨_, rfl⟩, ?_⟩ | refine ⟨fun _ => ?_, fun h => absurd h (by decide)⟩ | refine ⟨fun h => absurd h (by decide), fun _ => ?_⟩)
      refine mg_cv (r177x d hx (by decide) (by decide)) (by omega) ?_
      repeat (first | refine ⟨_, mg_Fs rfl rfl, ?_⟩ | refine ⟨_, mg_Fd rfl rfl, ?_⟩ | refine ⟨Or.inl rfl, ?_⟩ | refine ⟨Or.inr ⟨_, rfl⟩, ?_⟩ | refine ⟨fun _ => ?_, fun h => absurd h (by decide)⟩ | refine ⟨fun h => absurd h (by decide), fun _ => ?_⟩)
      refine mg_cv (r176_2 d _) (by omega) ?_
      repeat (first | refine ⟨_, mg_Fs rfl rfl, ?_⟩ | refine ⟨_, mg_Fd rfl rfl, ?_⟩ | refine ⟨Or.inl rfl, ?_⟩ | refine ⟨Or.inr ⟨_, rfl⟩, ?_⟩ | refine ⟨fun _ => ?_, fun h => absurd h (by decide)⟩ | refine ⟨fun h => absurd h (by decide), fun _ => ?_⟩)
      exact ⟨rfl, rfl, rX.rf _⟩
    | some k =>
      obtain ⟨rfl, hk⟩ := vi_s hx
      have hI3 : rI (mg_sF G 148 10 (.int 0)) A := hI
      refine mg_me [] 120 my_275 ms_275 (Nat.le_of_ble_eq_true rfl) ?_
      repeat (first | refine ⟨_, mg_Fs rfl rfl, ?_⟩ | refine ⟨_, mg_Fd rfl rfl, ?_⟩ | refine ⟨Or.inl rfl, ?_⟩ | refine ⟨Or.inr ⟨_, rfl⟩, ?_⟩ | refine ⟨fun _ => ?_, fun h => absurd h (by decide)⟩ | refine ⟨fun h => absurd h (by decide), fun _ => ?_⟩)
      refine mg_cv (r181y d hI hf) (by omega) ?_
      repeat (first | refine ⟨_, mg_Fs rfl rfl, ?_⟩ | refine ⟨_, mg_Fd rfl rfl, ?_⟩ | refine ⟨Or.inl rfl, ?_⟩ | refine ⟨Or.inr ⟨_, rfl⟩, ?_⟩ | refine ⟨fun _ => ?_, fun h => absurd h (by decide)⟩ | refine ⟨fun h => absurd h (by decide), fun _ => ?_⟩)
      refine mg_cv (r177y d hx (by decide) (by decide)) (by omega) ?_
      repeat (first | refine ⟨_, mg_Fs rfl rfl, ?_⟩ | refine ⟨_, mg_Fd rfl rfl, ?_⟩ | refine ⟨Or.inl rfl, ?_⟩ | refine ⟨Or.inr ⟨_, rfl⟩, ?_⟩ | refine ⟨fun _ => ?_, fun h => absurd h (by decide)⟩ | refine ⟨fun h => absurd h (by decide), fun _ => ?_⟩)
      refine mg_cv (r176_0 d) (by omega) ?_
      repeat (first | refine ⟨_, mg_Fs rfl rfl, ?_⟩ | refine ⟨_, mg_Fd rfl rfl, ?_⟩ | refine ⟨Or.inl rfl, ?_⟩ | refine ⟨Or.inr ⟨_, rfl⟩, ?_⟩ | refine ⟨fun _ => ?_, fun h => absurd h (by decide)⟩ | refine ⟨fun h => absurd h (by decide), fun _ => ?_⟩)
      refine mg_m_mono (r201A d hI3) (by omega) ?_
      rintro o q G' ⟨rfl, rfl, hX, hgr, hg, hr, -⟩
      obtain ⟨e1, e2⟩ := hr i hi
      repeat (first | refine ⟨_, mg_Fs rfl rfl, ?_⟩ | refine ⟨_, mg_Fd rfl rfl, ?_⟩ | refine ⟨Or.inl rfl, ?_⟩ | refine ⟨Or.inr ⟨_, rfl⟩, ?_⟩ | refine ⟨fun _ => ?_, fun h => absurd h (by decide)⟩ | refine ⟨fun h => absurd h (by decide), fun _ => ?_⟩)
      refine ⟨_, _, i, mg_Ai rfl (by decide), mg_ixN (by omega), by omega, ?_⟩
      rw [e1]
      repeat (first | refine ⟨_, mg_Fs rfl rfl, ?_⟩ | refine ⟨_, mg_Fd rfl rfl, ?_⟩ | refine ⟨Or.inl rfl, ?_⟩ | refine ⟨Or.inr ⟨_, rfl⟩, ?_⟩ | refine ⟨fun _ => ?_, fun h => absurd h (by decide)⟩ | refine ⟨fun h => absurd h (by decide), fun _ => ?_⟩)
      refine mg_cv (r274 hgr hg _ (aV A) d _ e2 (by omega)) (by omega) ?_
      repeat (first | refine ⟨_, mg_Fs rfl rfl, ?_⟩ | refine ⟨_, mg_Fd rfl rfl, ?_⟩ | refine ⟨Or.inl rfl, ?_⟩ | refine ⟨Or.inr ⟨_, rfl⟩, ?_⟩ | refine ⟨fun _ => ?_, fun h => absurd h (by decide)⟩ | refine ⟨fun h => absurd h (by decide), fun _ => ?_⟩)
      exact ⟨rfl, rfl, hX⟩
theorem r277 (d : Nat) (hI : rI G A) (f x : Int32) : mg_m (mg_KM scr t) (d + aV A + 8) 277 [.ref 148, .int f, .int x] G (rQ G (q277 A f x)) := by
  have h8 := hI.v8
  have h12 := hI.f12
  unfold q277
  cases hf : vi f (aF A) with
  | none =>
    rw [qF_x hf]
    refine mg_me [] 120 my_277 ms_277 (Nat.le_of_ble_eq_true rfl) ?_
    repeat (first | refine ⟨_, mg_Fs rfl rfl, ?_⟩ | refine ⟨_, mg_Fd rfl rfl, ?_⟩ | refine ⟨Or.inl rfl, ?_⟩ | refine ⟨Or.inr ⟨_, rfl⟩, ?_⟩ | refine ⟨fun _ => ?_, fun h => absurd h (by decide)⟩ | refine ⟨fun h => absurd h (by decide), fun _ => ?_⟩)
    refine mg_cv (r181x d hI hf) (by omega) ?_
    repeat (first | refine ⟨_, mg_Fs rfl rfl, ?_⟩ | refine ⟨_, mg_Fd rfl rfl, ?_⟩ | refine ⟨Or.inl rfl, ?_⟩ | refine ⟨Or.inr ⟨_, rfl⟩, ?_⟩ | refine ⟨fun _ => ?_, fun h => absurd h (by decide)⟩ | refine ⟨fun h => absurd h (by decide), fun _ => ?_⟩)
    refine mg_cv (r177 d x 0 _ G) (by omega) ?_
    refine ⟨fun _ => ?_, fun _ => ?_⟩
    · repeat (first | refine ⟨_, mg_Fs rfl rfl, ?_⟩ | refine ⟨_, mg_Fd rfl rfl, ?_⟩ | refine ⟨Or.inl rfl, ?_⟩ | refine ⟨Or.inr ⟨_, rfl⟩, ?_⟩ | refine ⟨fun _ => ?_, fun h => absurd h (by decide)⟩ | refine ⟨fun h => absurd h (by decide), fun _ => ?_⟩)
      refine mg_cv (r176_1 d _ _) (by omega) ?_
      repeat (first | refine ⟨_, mg_Fs rfl rfl, ?_⟩ | refine ⟨_, mg_Fd rfl rfl, ?_⟩ | refine ⟨Or.inl rfl, ?_⟩ | refine ⟨Or.inr ⟨_, rfl⟩, ?_⟩ | refine ⟨fun _ => ?_, fun h => absurd h (by decide)⟩ | refine ⟨fun h => absurd h (by decide), fun _ => ?_⟩)
      exact ⟨rfl, rfl, rX.rf _⟩
    · repeat (first | refine ⟨_, mg_Fs rfl rfl, ?_⟩ | refine ⟨_, mg_Fd rfl rfl, ?_⟩ | refine ⟨Or.inl rfl, ?_⟩ | refine ⟨Or.inr ⟨_, rfl⟩, ?_⟩ | refine ⟨fun _ => ?_, fun h => absurd h (by decide)⟩ | refine ⟨fun h => absurd h (by decide), fun _ => ?_⟩)
      refine mg_cv (r176_1 d _ _) (by omega) ?_
      repeat (first | refine ⟨_, mg_Fs rfl rfl, ?_⟩ | refine ⟨_, mg_Fd rfl rfl, ?_⟩ | refine ⟨Or.inl rfl, ?_⟩ | refine ⟨Or.inr ⟨_, rfl⟩, ?_⟩ | refine ⟨fun _ => ?_, fun h => absurd h (by decide)⟩ | refine ⟨fun h => absurd h (by decide), fun _ => ?_⟩)
      exact ⟨rfl, rfl, rX.rf _⟩
  | some i =>
    obtain ⟨rfl, hi⟩ := vi_s hf
    rw [qF_y hf]
    cases hx : vi x 2 with
    | none =>
      refine mg_me [] 120 my_277 ms_277 (Nat.le_of_ble_eq_true rfl) ?_
      repeat (first | refine ⟨_, mg_Fs rfl rfl, ?_⟩ | refine ⟨_, mg_Fd rfl rfl, ?_⟩ | refine ⟨Or.inl rfl, ?_⟩ | refine ⟨Or.inr ⟨_, rfl⟩, ?_⟩ | refine ⟨fun _ => ?_, fun h => absurd h (by decide)⟩ | refine ⟨fun h => absurd h (by decide), fun _ => ?_⟩)
      refine mg_cv (r181y d hI hf) (by omega) ?_
      repeat (first | refine ⟨_, mg_Fs rfl rfl, ?_⟩ | refine ⟨_, mg_Fd rfl rfl, ?_⟩ | refine ⟨Or.inl rfl, ?_⟩ | refine ⟨Or.inr ⟨_, rfl⟩, ?_⟩ | refine ⟨fun _ => ?_, fun h => absurd h (by decide)⟩ | refine ⟨fun h => absurd h (by decide), fun _ => ?_⟩)
      refine mg_cv (r177x d hx (by decide) (by decide)) (by omega) ?_
      repeat (first | refine ⟨_, mg_Fs rfl rfl, ?_⟩ | refine ⟨_, mg_Fd rfl rfl, ?_⟩ | refine ⟨Or.inl rfl, ?_⟩ | refine ⟨Or.inr ⟨_, rfl⟩, ?_⟩ | refine ⟨fun _ => ?_, fun h => absurd h (by decide)⟩ | refine ⟨fun h => absurd h (by decide), fun _ => ?_⟩)
      refine mg_cv (r176_2 d _) (by omega) ?_
      repeat (first | refine ⟨_, mg_Fs rfl rfl, ?_⟩ | refine ⟨_, mg_Fd rfl rfl, ?_⟩ | refine ⟨Or.inl rfl, ?_⟩ | refine ⟨Or.inr ⟨_, rfl⟩, ?_⟩ | refine ⟨fun _ => ?_, fun h => absurd h (by decide)⟩ | refine ⟨fun h => absurd h (by decide), fun _ => ?_⟩)
      exact ⟨rfl, rfl, rX.rf _⟩
    | some k =>
      obtain ⟨rfl, hk⟩ := vi_s hx
      have hI3 : rI (mg_sF G 148 10 (.int 0)) A := hI
      show mg_m _ _ 277 _ _ (rQ G (0, a_oi (g_sh (aG A) (Int32.ofNat k) (aV A) (aR A i))))
      refine mg_me [] 120 my_277 ms_277 (Nat.le_of_ble_eq_true rfl) ?_
      repeat (first | refine ⟨_, mg_Fs rfl rfl, ?_⟩ | refine ⟨_, mg_Fd rfl rfl, ?_⟩ | refine ⟨Or.inl rfl, ?_⟩ | refine ⟨Or.inr ⟨_, rfl⟩, ?_⟩ | refine ⟨fun _ => ?_, fun h => absurd h (by decide)⟩ | refine ⟨fun h => absurd h (by decide), fun _ => ?_⟩)
      refine mg_cv (r181y d hI hf) (by omega) ?_
      repeat (first | refine ⟨_, mg_Fs rfl rfl, ?_⟩ | refine ⟨_, mg_Fd rfl rfl, ?_⟩ | refine ⟨Or.inl rfl, ?_⟩ | refine ⟨Or.inr ⟨_, rfl⟩, ?_⟩ | refine ⟨fun _ => ?_, fun h => absurd h (by decide)⟩ | refine ⟨fun h => absurd h (by decide), fun _ => ?_⟩)
      refine mg_cv (r177y d hx (by decide) (by decide)) (by omega) ?_
      repeat (first | refine ⟨_, mg_Fs rfl rfl, ?_⟩ | refine ⟨_, mg_Fd rfl rfl, ?_⟩ | refine ⟨Or.inl rfl, ?_⟩ | refine ⟨Or.inr ⟨_, rfl⟩, ?_⟩ | refine ⟨fun _ => ?_, fun h => absurd h (by decide)⟩ | refine ⟨fun h => absurd h (by decide), fun _ => ?_⟩)
      refine mg_cv (r176_0 d) (by omega) ?_
      repeat (first | refine ⟨_, mg_Fs rfl rfl, ?_⟩ | refine ⟨_, mg_Fd rfl rfl, ?_⟩ | refine ⟨Or.inl rfl, ?_⟩ | refine ⟨Or.inr ⟨_, rfl⟩, ?_⟩ | refine ⟨fun _ => ?_, fun h => absurd h (by decide)⟩ | refine ⟨fun h => absurd h (by decide), fun _ => ?_⟩)
      refine mg_m_mono (r201A d hI3) (by omega) ?_
      rintro o q G' ⟨rfl, rfl, hX, hgr, hg, hr, -⟩
      obtain ⟨e1, e2⟩ := hr i hi
      repeat (first | refine ⟨_, mg_Fs rfl rfl, ?_⟩ | refine ⟨_, mg_Fd rfl rfl, ?_⟩ | refine ⟨Or.inl rfl, ?_⟩ | refine ⟨Or.inr ⟨_, rfl⟩, ?_⟩ | refine ⟨fun _ => ?_, fun h => absurd h (by decide)⟩ | refine ⟨fun h => absurd h (by decide), fun _ => ?_⟩)
      refine ⟨_, _, i, mg_Ai rfl (by decide), mg_ixN (by omega), by omega, ?_⟩
      rw [e1]
      repeat (first | refine ⟨_, mg_Fs rfl rfl, ?_⟩ | refine ⟨_, mg_Fd rfl rfl, ?_⟩ | refine ⟨Or.inl rfl, ?_⟩ | refine ⟨Or.inr ⟨_, rfl⟩, ?_⟩ | refine ⟨fun _ => ?_, fun h => absurd h (by decide)⟩ | refine ⟨fun h => absurd h (by decide), fun _ => ?_⟩)
      refine mg_cv (r276 hgr hg _ (aV A) d _ e2 (by omega) (by omega)) (by omega) ?_
      have hle := g_sh_le (aG A) (Int32.ofNat k) (aV A) (aR A i)
      cases o1 : g_sh (aG A) (Int32.ofNat k) (aV A) (aR A i) with
      | none => exact ⟨fun h => absurd rfl h, fun _ => ⟨Or.inl rfl, rfl, rfl, hX⟩⟩
      | some s =>
        have := hle s o1
        refine ⟨fun _ => ⟨Or.inl rfl, rfl, rfl, hX⟩, fun h => ?_⟩
        have := (mg_eqN (a := s) (b := 1000) (by omega) (by decide)).mp h
        omega
theorem r279 (d : Nat) (hI : rI G A) (f : Int32) : mg_m (mg_KM scr t) (d + aV A + 8) 279 [.ref 148, .int f] G (rQ G (q279 A f)) := by
  have h8 := hI.v8
  have h12 := hI.f12
  unfold q279
  cases hf : vi f (aF A) with
  | none =>
    rw [qF_x hf]
    refine mg_me [] 120 my_279 ms_279 (Nat.le_of_ble_eq_true rfl) ?_
    repeat (first | refine ⟨_, mg_Fs rfl rfl, ?_⟩ | refine ⟨_, mg_Fd rfl rfl, ?_⟩ | refine ⟨Or.inl rfl, ?_⟩ | refine ⟨Or.inr ⟨_, rfl⟩, ?_⟩ | refine ⟨fun _ => ?_, fun h => absurd h (by decide)⟩ | refine ⟨fun h => absurd h (by decide), fun _ => ?_⟩)
    refine mg_cv (r181x d hI hf) (by omega) ?_
    repeat (first | refine ⟨_, mg_Fs rfl rfl, ?_⟩ | refine ⟨_, mg_Fd rfl rfl, ?_⟩ | refine ⟨Or.inl rfl, ?_⟩ | refine ⟨Or.inr ⟨_, rfl⟩, ?_⟩ | refine ⟨fun _ => ?_, fun h => absurd h (by decide)⟩ | refine ⟨fun h => absurd h (by decide), fun _ => ?_⟩)
    refine mg_cv (r176_1 d _ _) (by omega) ?_
    repeat (first | refine ⟨_, mg_Fs rfl rfl, ?_⟩ | refine ⟨_, mg_Fd rfl rfl, ?_⟩ | refine ⟨Or.inl rfl, ?_⟩ | refine ⟨Or.inr ⟨_, rfl⟩, ?_⟩ | refine ⟨fun _ => ?_, fun h => absurd h (by decide)⟩ | refine ⟨fun h => absurd h (by decide), fun _ => ?_⟩)
    exact ⟨rfl, rfl, rX.rf _⟩
  | some i =>
    obtain ⟨rfl, hi⟩ := vi_s hf
    rw [qF_y hf]
    have hI3 : rI (mg_sF G 148 10 (.int 0)) A := hI
    refine mg_me [] 120 my_279 ms_279 (Nat.le_of_ble_eq_true rfl) ?_
    repeat (first | refine ⟨_, mg_Fs rfl rfl, ?_⟩ | refine ⟨_, mg_Fd rfl rfl, ?_⟩ | refine ⟨Or.inl rfl, ?_⟩ | refine ⟨Or.inr ⟨_, rfl⟩, ?_⟩ | refine ⟨fun _ => ?_, fun h => absurd h (by decide)⟩ | refine ⟨fun h => absurd h (by decide), fun _ => ?_⟩)
    refine mg_cv (r181y d hI hf) (by omega) ?_
    repeat (first | refine ⟨_, mg_Fs rfl rfl, ?_⟩ | refine ⟨_, mg_Fd rfl rfl, ?_⟩ | refine ⟨Or.inl rfl, ?_⟩ | refine ⟨Or.inr ⟨_, rfl⟩, ?_⟩ | refine ⟨fun _ => ?_, fun h => absurd h (by decide)⟩ | refine ⟨fun h => absurd h (by decide), fun _ => ?_⟩)
    refine mg_cv (r176_0 d) (by omega) ?_
    repeat (first | refine ⟨_, mg_Fs rfl rfl, ?_⟩ | refine ⟨_, mg_Fd rfl rfl, ?_⟩ | refine ⟨Or.inl rfl, ?_⟩ | refine ⟨Or.inr ⟨_, rfl⟩, ?_⟩ | refine ⟨fun _ => ?_, fun h => absurd h (by decide)⟩ | refine ⟨fun h => absurd h (by decide), fun _ => ?_⟩)
    refine mg_m_mono (r201A d hI3) (by omega) ?_
    rintro o q G' ⟨rfl, rfl, hX, hgr, hg, hr, -⟩
    obtain ⟨e1, e2⟩ := hr i hi
    repeat (first | refine ⟨_, mg_Fs rfl rfl, ?_⟩ | refine ⟨_, mg_Fd rfl rfl, ?_⟩ | refine ⟨Or.inl rfl, ?_⟩ | refine ⟨Or.inr ⟨_, rfl⟩, ?_⟩ | refine ⟨fun _ => ?_, fun h => absurd h (by decide)⟩ | refine ⟨fun h => absurd h (by decide), fun _ => ?_⟩)
    refine ⟨_, _, i, mg_Ai rfl (by decide), mg_ixN (by omega), by omega, ?_⟩
    rw [e1]
    repeat (first | refine ⟨_, mg_Fs rfl rfl, ?_⟩ | refine ⟨_, mg_Fd rfl rfl, ?_⟩ | refine ⟨Or.inl rfl, ?_⟩ | refine ⟨Or.inr ⟨_, rfl⟩, ?_⟩ | refine ⟨fun _ => ?_, fun h => absurd h (by decide)⟩ | refine ⟨fun h => absurd h (by decide), fun _ => ?_⟩)
    refine mg_cv (r278 hgr hg (aV A) d _ e2 (by omega) (by omega)) (by omega) ?_
    repeat (first | refine ⟨_, mg_Fs rfl rfl, ?_⟩ | refine ⟨_, mg_Fd rfl rfl, ?_⟩ | refine ⟨Or.inl rfl, ?_⟩ | refine ⟨Or.inr ⟨_, rfl⟩, ?_⟩ | refine ⟨fun _ => ?_, fun h => absurd h (by decide)⟩ | refine ⟨fun h => absurd h (by decide), fun _ => ?_⟩)
    exact ⟨rfl, rfl, hX⟩
end RM
