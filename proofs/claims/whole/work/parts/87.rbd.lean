/-! REFERENCE: operations on functions -/
theorem a_wd_cf (T : a_T) (v k : Nat) (x : Bool) (hk : k < 4) : a_wd (a_cf T v x) k = a_left a_m T (Int32.ofNat v) (if x then 1 else 0) (Int32.ofNat k) := by
  unfold a_cf a_cof
  rcases (show k = 0 ∨ k = 1 ∨ k = 2 ∨ k = 3 by omega) with rfl | rfl | rfl | rfl <;> rfl
theorem mg_4d (n k : Nat) : Int32.ofInt 4 * Int32.ofNat (n + 1) - Int32.ofInt 4 + Int32.ofNat k = Int32.ofNat (4 * n + k) := mg_4c n k
section RM
variable {scr : Nat × (Nat → Int32)} {t : List mg_S} {G : mg_G} {A : a_A} {S : a_S}
theorem r230 (d v : Nat) (hm : ∀ v, v < 6 → G.2.1 154 v = a_m v) (hv : v < 8) (all : Bool) {ts : List a_T} {x : a_T} (hK : rK G (ts ++ [x])) (hl : ts.length < 390) : mg_m (mg_KM scr t) (d + 3) 230 [.ref 148, .int (Int32.ofNat v), .int (if all then 1 else 0)] G (rP G (ts ++ [a_qu all v x])) := by
  have hx : (ts ++ [x])[ts.length]? = some x := by rw [List.getElem?_append_right (Nat.le_refl _), Nat.sub_self]; rfl
  have hn : G.2.2.2.2 148 28 = .int (Int32.ofNat (ts.length + 1)) := by
    have := hK.1
    rw [List.length_append] at this
    exact this
  have hr := hK.2 _ _ hx
  have h0 : G.2.1 164 (4 * ts.length) = x.1 := hr 0 (by decide)
  have h1 : G.2.1 164 (4 * ts.length + 1) = x.2.1 := hr 1 (by decide)
  have h2 : G.2.1 164 (4 * ts.length + 2) = x.2.2.1 := hr 2 (by decide)
  have h3 : G.2.1 164 (4 * ts.length + 3) = x.2.2.2 := hr 3 (by decide)
  have hv0 : (0 : Int32) ≤ Int32.ofNat v := (mg_leN (a := 0) (by decide) (by omega)).mpr (Nat.zero_le _)
  refine mg_me [50] 60 my_230 ms_230 (Nat.le_of_ble_eq_true rfl) ?_
  refine ⟨_, mg_Fe hn rfl rfl, _, mg_Fs rfl rfl, 1600, _, 4 * ts.length, mg_Al rfl (by decide), mg_ixE (mg_4b _) (by omega), by omega, ?_⟩
  rw [h0]
  refine ⟨_, mg_Fs rfl rfl, 1600, _, 4 * ts.length + 1, mg_Al rfl (by decide), mg_ixE (mg_4d _ 1) (by omega), by omega, ?_⟩
  rw [h1]
  refine ⟨_, mg_Fs rfl rfl, 1600, _, 4 * ts.length + 2, mg_Al rfl (by decide), mg_ixE (mg_4d _ 2) (by omega), by omega, ?_⟩
  rw [h2]
  refine ⟨_, mg_Fs rfl rfl, 1600, _, 4 * ts.length + 3, mg_Al rfl (by decide), mg_ixE (mg_4d _ 3) (by omega), by omega, ?_⟩
  rw [h3]
  refine mg_loop 4 (fun k L G' => (∃ e1 e2, L = [some (.ref 148), some (.int (Int32.ofNat v)), some (.int (if all then 1 else 0)), some (.int (Int32.ofNat (4 * ts.length))), some (.long x.1), none, some (.long x.2.1), none, some (.long x.2.2.1), none, some (.long x.2.2.2), none, some (.int (Int32.ofNat k)), e1, none, e2, none]) ∧ G' = cW G 164 ts.length k (a_wd (a_qu all v x))) ?_ ?_ _ _ ⟨⟨none, none, by rw [← mg_4b] <;> rfl⟩, (cW_0 _ _ _ _).symm⟩
  · rintro k L G' hk ⟨⟨e1, e2, rfl⟩, rfl⟩ ih
    have lf : ∀ b : Bool, mg_m (mg_KM scr t) (d + 2) 188 [.ref 148, .long x.1, .long x.2.1, .long x.2.2.1, .long x.2.2.2, .int (Int32.ofNat v), .int (if b then 1 else 0), .int (Int32.ofNat k)] (cW G 164 ts.length k (a_wd (a_qu all v x))) (mg_v (.long (a_wd (a_cf x v b) k)) (cW G 164 ts.length k (a_wd (a_qu all v x)))) := fun b => by
      have := r188 (scr := scr) (t := t) d x.1 x.2.1 x.2.2.1 x.2.2.2 (Int32.ofNat v) (if b then 1 else 0) (Int32.ofNat k) hv0 (cW G 164 ts.length k (a_wd (a_qu all v x)))
      rw [cW_ne _ _ _ _ _ _ (show (154 : Nat) ≠ 164 by decide), a_left_m hm _ _ hv] at this
      rw [a_wd_cf _ _ _ _ hk]
      exact this
    have hq : a_wd (a_qu all v x) k = a_comb (if all then 0 else 1) (a_wd (a_cf x v false) k) (a_wd (a_cf x v true) k) := a_wd4 _ k hk
    refine mg_go [50] 90 50 ms_230 ?_
    refine ⟨fun h => absurd h (mg_nle (b := 4) hk (by decide)), fun _ => ?_⟩
    repeat (first | refine ⟨_, mg_Fs rfl rfl, ?_⟩ | refine ⟨_, mg_Fd rfl rfl, ?_⟩ | refine ⟨Or.inl rfl, ?_⟩ | refine ⟨Or.inr ⟨_, rfl⟩, ?_⟩ | refine ⟨fun _ => ?_, fun h => absurd h (by decide)⟩ | refine ⟨fun h => absurd h (by decide), fun _ => ?_⟩)
    refine mg_cv (lf false) (by omega) ?_
    repeat (first | refine ⟨_, mg_Fs rfl rfl, ?_⟩ | refine ⟨_, mg_Fd rfl rfl, ?_⟩ | refine ⟨Or.inl rfl, ?_⟩ | refine ⟨Or.inr ⟨_, rfl⟩, ?_⟩ | refine ⟨fun _ => ?_, fun h => absurd h (by decide)⟩ | refine ⟨fun h => absurd h (by decide), fun _ => ?_⟩)
    refine mg_cv (lf true) (by omega) ?_
    refine ⟨_, mg_Fs rfl rfl, ?_⟩
    cases all with
    | true =>
      refine ⟨fun h => absurd h (by decide), fun _ => ⟨1600, 4 * ts.length + k, rfl, mg_ixE (mg_addN _ _) (by omega), by omega, ih _ _ ⟨⟨_, _, by rw [← mg_inc k]⟩, ?_⟩⟩⟩
      rw [← cW_s, hq]
      rfl
    | false =>
      refine ⟨fun _ => ⟨1600, 4 * ts.length + k, rfl, mg_ixE (mg_addN _ _) (by omega), by omega, ih _ _ ⟨⟨_, _, by rw [← mg_inc k]⟩, ?_⟩⟩, fun h => absurd rfl h⟩
      rw [← cW_s, hq]
      rfl
  · rintro L G' ⟨⟨e1, e2, rfl⟩, rfl⟩
    refine mg_go [50] 60 50 ms_230 ?_
    refine ⟨fun _ => ⟨rfl, rfl, (rX.rf G).cW _ _ _, ?_⟩, fun h => absurd h (by decide)⟩
    exact rK_put hK (fun w hw => rfl) rfl hn
/-- what an operation leaves: S with a new function T (or what is thrown) -/
def pNew (S : a_S) (T : a_T) : a_S × qR := if aF (sA S) = 12 then (S, (2, 0)) else (sAdd S T, (0, Int32.ofNat (aF (sA S))))
def pNew3 (S : a_S) (T : a_T) : a_S × qR := if aF (sA S) = 12 then (S, (3, 0)) else (sAdd S T, (0, Int32.ofNat (aF (sA S))))
def pF (S : a_S) (f : Int32) (k : Nat → a_S × qR) : a_S × qR := match vi f (aF (sA S)) with
  | none => (S, (1, 0))
  | some f => k f
def pV (S : a_S) (f : Int32) (k : Nat → a_S × qR) : a_S × qR := match vi f (aV (sA S)) with
  | none => (S, (1, 0))
  | some f => k f
theorem pF_y {S : a_S} {f : Int32} {k : Nat → a_S × qR} {i : Nat} (h : vi f (aF (sA S)) = some i) : pF S f k = k i := by unfold pF; rw [h]
theorem pF_x {S : a_S} {f : Int32} {k : Nat → a_S × qR} (h : vi f (aF (sA S)) = none) : pF S f k = (S, (1, 0)) := by unfold pF; rw [h]
theorem pV_y {S : a_S} {f : Int32} {k : Nat → a_S × qR} {i : Nat} (h : vi f (aV (sA S)) = some i) : pV S f k = k i := by unfold pV; rw [h]
theorem pV_x {S : a_S} {f : Int32} {k : Nat → a_S × qR} (h : vi f (aV (sA S)) = none) : pV S f k = (S, (1, 0)) := by unfold pV; rw [h]
def p307 (S : a_S) (op f g : Int32) : a_S × qR := pF S f fun f => pF S g fun g => match vi op 6 with
  | none => (S, (2, 0))
  | some _ => pNew3 S (a_op op (aT (sA S) f) (aT (sA S) g))
def p308 (S : a_S) (f g h : Int32) : a_S × qR := pF S f fun f => pF S g fun g => pF S h fun h => pNew S (a_sel (aT (sA S) f) (aT (sA S) g) (aT (sA S) h))
def p309 (S : a_S) (f : Int32) : a_S × qR := pF S f fun f => pNew S (a_not (aT (sA S) f))
def p310 (S : a_S) (f v : Int32) (b : Bool) : a_S × qR := pF S f fun f => pV S v fun v => pNew S (a_cf (aT (sA S) f) v b)
def p311 (S : a_S) (f v : Int32) (b : Bool) : a_S × qR := pF S f fun f => pV S v fun v => pNew S (a_qu b v (aT (sA S) f))
def p312 (S : a_S) (f v g : Int32) : a_S × qR := pF S f fun f => pV S v fun v => pF S g fun g => pNew S (a_sel (aT (sA S) g) (a_cf (aT (sA S) f) v true) (a_cf (aT (sA S) f) v false))
def rAp (G : mg_G) (p : a_S × qR) : mg_Q := rA G p.1 p.2
theorem rA_x {G G1 : mg_G} {S : a_S} {x : Int32} (hT : rT G S) (e : G1 = mg_sF G 148 10 (.int x)) : rA G S (x, 0) (.inl (some (.int 0))) 0 G1 := by
  subst e
  exact ⟨rfl, rfl, mg_sF_at _ _ _ _, hT.s10 _, rF.s _ _ _⟩
/-- behind all checks: the stack's row 0 holds T, and add is called -/
theorem rAdd (d : Nat) {G1 : mg_G} (hT : rT G S) (hX : rX (mg_sF G 148 10 (.int 0)) G1) {T : a_T} (hK : cRow G1 164 0 4 T) (h11 : aF (sA S) < 12) (hp : a_per (aV (sA S)) T) : mg_m (mg_KM scr t) (d + 3) 305 [.ref 148] G1 (rA G (sAdd S T) (0, Int32.ofNat (aF (sA S)))) := by
  refine mg_m_mono (r305 d ((hT.s10 _).X hX) hK h11 hp) (Nat.le_refl _) ?_
  rintro o q G2 ⟨rfl, rfl, h1, h2⟩
  exact ⟨rfl, rfl, (h2.2.2.2.2 148 10 (by decide)).trans ((hX.2.2.2 148 10 (by decide)).trans (mg_sF_at _ _ _ _)), h1, ((rF.s _ _ _).tr hX.F).tr h2.F⟩
theorem rK_row {G : mg_G} {T : a_T} (h : rK G [T]) : cRow G 164 0 4 T := h.2 0 T rfl
theorem rK_0 (G : mg_G) : rK (mg_sF G 148 28 (.int (Int32.ofInt 0))) [] := ⟨mg_sF_at _ _ _ _, fun i T hi => by simp at hi⟩
theorem r309 (d : Nat) (hT : rT G S) (f : Int32) : mg_m (mg_KM scr t) (d + 7) 309 [.ref 148, .int f] G (rAp G (p309 S f)) := by
  have hI := hT.I
  have h8 := hI.v8
  have h12 := hI.f12
  have hper := hI.W.2.2.2.1
  have hI3 : rI (mg_sF G 148 10 (.int 0)) (sA S) := hI
  unfold p309 rAp
  cases hf : vi f (aF (sA S)) with
  | none =>
    rw [pF_x hf]
    refine mg_me [] 150 my_309 ms_309 (Nat.le_of_ble_eq_true rfl) ?_
    repeat (first | refine ⟨_, mg_Fs rfl rfl, ?_⟩ | refine ⟨_, mg_Fd rfl rfl, ?_⟩ | refine ⟨Or.inl rfl, ?_⟩ | refine ⟨Or.inr ⟨_, rfl⟩, ?_⟩ | refine ⟨fun _ => ?_, fun h => absurd h (by decide)⟩ | refine ⟨fun h => absurd h (by decide), fun _ => ?_⟩)
    refine mg_cv (r181x d hI hf) (by omega) ?_
    repeat (first | refine ⟨_, mg_Fs rfl rfl, ?_⟩ | refine ⟨_, mg_Fd rfl rfl, ?_⟩ | refine ⟨Or.inl rfl, ?_⟩ | refine ⟨Or.inr ⟨_, rfl⟩, ?_⟩ | refine ⟨fun _ => ?_, fun h => absurd h (by decide)⟩ | refine ⟨fun h => absurd h (by decide), fun _ => ?_⟩)
    refine mg_cv (r306 d hI) (by omega) ?_
    repeat (first | refine ⟨_, mg_Fs rfl rfl, ?_⟩ | refine ⟨_, mg_Fd rfl rfl, ?_⟩ | refine ⟨Or.inl rfl, ?_⟩ | refine ⟨Or.inr ⟨_, rfl⟩, ?_⟩ | refine ⟨fun _ => ?_, fun h => absurd h (by decide)⟩ | refine ⟨fun h => absurd h (by decide), fun _ => ?_⟩)
    refine mg_cv (r176_1 d _ _) (by omega) ?_
    repeat (first | refine ⟨_, mg_Fs rfl rfl, ?_⟩ | refine ⟨_, mg_Fd rfl rfl, ?_⟩ | refine ⟨Or.inl rfl, ?_⟩ | refine ⟨Or.inr ⟨_, rfl⟩, ?_⟩ | refine ⟨fun _ => ?_, fun h => absurd h (by decide)⟩ | refine ⟨fun h => absurd h (by decide), fun _ => ?_⟩)
    exact rA_x hT rfl
  | some jf =>
    obtain ⟨rfl, hif⟩ := vi_s hf
    rw [pF_y hf]
    unfold pNew
    by_cases h11 : aF (sA S) = 12
    · rw [if_pos h11]
      have h306 := r306 (scr := scr) (t := t) d hI
      rw [if_pos h11] at h306
      refine mg_me [] 150 my_309 ms_309 (Nat.le_of_ble_eq_true rfl) ?_
      repeat (first | refine ⟨_, mg_Fs rfl rfl, ?_⟩ | refine ⟨_, mg_Fd rfl rfl, ?_⟩ | refine ⟨Or.inl rfl, ?_⟩ | refine ⟨Or.inr ⟨_, rfl⟩, ?_⟩ | refine ⟨fun _ => ?_, fun h => absurd h (by decide)⟩ | refine ⟨fun h => absurd h (by decide), fun _ => ?_⟩)
      refine mg_cv (r181y d hI hf) (by omega) ?_
      repeat (first | refine ⟨_, mg_Fs rfl rfl, ?_⟩ | refine ⟨_, mg_Fd rfl rfl, ?_⟩ | refine ⟨Or.inl rfl, ?_⟩ | refine ⟨Or.inr ⟨_, rfl⟩, ?_⟩ | refine ⟨fun _ => ?_, fun h => absurd h (by decide)⟩ | refine ⟨fun h => absurd h (by decide), fun _ => ?_⟩)
      refine mg_cv (h306) (by omega) ?_
      repeat (first | refine ⟨_, mg_Fs rfl rfl, ?_⟩ | refine ⟨_, mg_Fd rfl rfl, ?_⟩ | refine ⟨Or.inl rfl, ?_⟩ | refine ⟨Or.inr ⟨_, rfl⟩, ?_⟩ | refine ⟨fun _ => ?_, fun h => absurd h (by decide)⟩ | refine ⟨fun h => absurd h (by decide), fun _ => ?_⟩)
      refine mg_cv (r176_2 d _) (by omega) ?_
      repeat (first | refine ⟨_, mg_Fs rfl rfl, ?_⟩ | refine ⟨_, mg_Fd rfl rfl, ?_⟩ | refine ⟨Or.inl rfl, ?_⟩ | refine ⟨Or.inr ⟨_, rfl⟩, ?_⟩ | refine ⟨fun _ => ?_, fun h => absurd h (by decide)⟩ | refine ⟨fun h => absurd h (by decide), fun _ => ?_⟩)
      exact rA_x hT rfl
    · rw [if_neg h11]
      have h306 := r306 (scr := scr) (t := t) d hI
      rw [if_neg h11] at h306
      refine mg_me [] 150 my_309 ms_309 (Nat.le_of_ble_eq_true rfl) ?_
      repeat (first | refine ⟨_, mg_Fs rfl rfl, ?_⟩ | refine ⟨_, mg_Fd rfl rfl, ?_⟩ | refine ⟨Or.inl rfl, ?_⟩ | refine ⟨Or.inr ⟨_, rfl⟩, ?_⟩ | refine ⟨fun _ => ?_, fun h => absurd h (by decide)⟩ | refine ⟨fun h => absurd h (by decide), fun _ => ?_⟩)
      refine mg_cv (r181y d hI hf) (by omega) ?_
      repeat (first | refine ⟨_, mg_Fs rfl rfl, ?_⟩ | refine ⟨_, mg_Fd rfl rfl, ?_⟩ | refine ⟨Or.inl rfl, ?_⟩ | refine ⟨Or.inr ⟨_, rfl⟩, ?_⟩ | refine ⟨fun _ => ?_, fun h => absurd h (by decide)⟩ | refine ⟨fun h => absurd h (by decide), fun _ => ?_⟩)
      refine mg_cv (h306) (by omega) ?_
      repeat (first | refine ⟨_, mg_Fs rfl rfl, ?_⟩ | refine ⟨_, mg_Fd rfl rfl, ?_⟩ | refine ⟨Or.inl rfl, ?_⟩ | refine ⟨Or.inr ⟨_, rfl⟩, ?_⟩ | refine ⟨fun _ => ?_, fun h => absurd h (by decide)⟩ | refine ⟨fun h => absurd h (by decide), fun _ => ?_⟩)
      refine mg_cv (r176_0 d) (by omega) ?_
      repeat (first | refine ⟨_, mg_Fs rfl rfl, ?_⟩ | refine ⟨_, mg_Fd rfl rfl, ?_⟩ | refine ⟨Or.inl rfl, ?_⟩ | refine ⟨Or.inr ⟨_, rfl⟩, ?_⟩ | refine ⟨fun _ => ?_, fun h => absurd h (by decide)⟩ | refine ⟨fun h => absurd h (by decide), fun _ => ?_⟩)
      refine ⟨rfl, _, rfl, rfl, ?_⟩
      have hX0 : rX (mg_sF G 148 10 (.int 0)) (mg_sF (mg_sF G 148 10 (.int 0)) 148 28 (.int (Int32.ofInt 0))) := (rX.rf _).s _ (by decide)
      repeat (first | refine ⟨_, mg_Fs rfl rfl, ?_⟩ | refine ⟨_, mg_Fd rfl rfl, ?_⟩ | refine ⟨Or.inl rfl, ?_⟩ | refine ⟨Or.inr ⟨_, rfl⟩, ?_⟩ | refine ⟨fun _ => ?_, fun h => absurd h (by decide)⟩ | refine ⟨fun h => absurd h (by decide), fun _ => ?_⟩)
      refine mg_m_mono (r224 (d + 3) (hX0.I hI3) hif (rK_0 _) (show 0 < 400 by decide)) (by omega) ?_
      rintro o q G1 ⟨rfl, rfl, hY1, hK1⟩
      have hX1 := hX0.tr hY1
      repeat (first | refine ⟨_, mg_Fs rfl rfl, ?_⟩ | refine ⟨_, mg_Fd rfl rfl, ?_⟩ | refine ⟨Or.inl rfl, ?_⟩ | refine ⟨Or.inr ⟨_, rfl⟩, ?_⟩ | refine ⟨fun _ => ?_, fun h => absurd h (by decide)⟩ | refine ⟨fun h => absurd h (by decide), fun _ => ?_⟩)
      refine mg_m_mono (r229 d (ts := []) hK1 (by decide)) (by omega) ?_
      rintro o q G2 ⟨rfl, rfl, hX2, hK2⟩
      repeat (first | refine ⟨_, mg_Fs rfl rfl, ?_⟩ | refine ⟨_, mg_Fd rfl rfl, ?_⟩ | refine ⟨Or.inl rfl, ?_⟩ | refine ⟨Or.inr ⟨_, rfl⟩, ?_⟩ | refine ⟨fun _ => ?_, fun h => absurd h (by decide)⟩ | refine ⟨fun h => absurd h (by decide), fun _ => ?_⟩)
      refine mg_m_mono (rAdd d hT (hX1.tr hX2) (rK_row hK2) (by omega) (a_per_not (hper _ hif))) (by omega) ?_
      rintro o q G3 ⟨rfl, rfl, h1⟩
      exact ⟨Or.inl rfl, rfl, rfl, h1⟩
theorem r307 (d : Nat) (hT : rT G S) (op f g : Int32) : mg_m (mg_KM scr t) (d + 7) 307 [.ref 148, .int op, .int f, .int g] G (rAp G (p307 S op f g)) := by
  have hI := hT.I
  have h8 := hI.v8
  have h12 := hI.f12
  have hper := hI.W.2.2.2.1
  have hI3 : rI (mg_sF G 148 10 (.int 0)) (sA S) := hI
  unfold p307 rAp
  cases hf : vi f (aF (sA S)) with
  | none =>
    rw [pF_x hf]
    refine mg_me [] 150 my_307 ms_307 (Nat.le_of_ble_eq_true rfl) ?_
    repeat (first | refine ⟨_, mg_Fs rfl rfl, ?_⟩ | refine ⟨_, mg_Fd rfl rfl, ?_⟩ | refine ⟨Or.inl rfl, ?_⟩ | refine ⟨Or.inr ⟨_, rfl⟩, ?_⟩ | refine ⟨fun _ => ?_, fun h => absurd h (by decide)⟩ | refine ⟨fun h => absurd h (by decide), fun _ => ?_⟩)
    refine mg_cv (r181x d hI hf) (by omega) ?_
    repeat (first | refine ⟨_, mg_Fs rfl rfl, ?_⟩ | refine ⟨_, mg_Fd rfl rfl, ?_⟩ | refine ⟨Or.inl rfl, ?_⟩ | refine ⟨Or.inr ⟨_, rfl⟩, ?_⟩ | refine ⟨fun _ => ?_, fun h => absurd h (by decide)⟩ | refine ⟨fun h => absurd h (by decide), fun _ => ?_⟩)
    refine mg_cv (r177 d op 0 _ G) (by omega) ?_
    refine ⟨fun _ => ?_, fun _ => ?_⟩
    · skip
      repeat (first | refine ⟨_, mg_Fs rfl rfl, ?_⟩ | refine ⟨_, mg_Fd rfl rfl, ?_⟩ | refine ⟨Or.inl rfl, ?_⟩ | refine ⟨Or.inr ⟨_, rfl⟩, ?_⟩ | refine ⟨fun _ => ?_, fun h => absurd h (by decide)⟩ | refine ⟨fun h => absurd h (by decide), fun _ => ?_⟩)
      refine mg_cv (r306 d hI) (by omega) ?_
      repeat (first | refine ⟨_, mg_Fs rfl rfl, ?_⟩ | refine ⟨_, mg_Fd rfl rfl, ?_⟩ | refine ⟨Or.inl rfl, ?_⟩ | refine ⟨Or.inr ⟨_, rfl⟩, ?_⟩ | refine ⟨fun _ => ?_, fun h => absurd h (by decide)⟩ | refine ⟨fun h => absurd h (by decide), fun _ => ?_⟩)
      refine mg_cv (r176_1 d _ _) (by omega) ?_
      repeat (first | refine ⟨_, mg_Fs rfl rfl, ?_⟩ | refine ⟨_, mg_Fd rfl rfl, ?_⟩ | refine ⟨Or.inl rfl, ?_⟩ | refine ⟨Or.inr ⟨_, rfl⟩, ?_⟩ | refine ⟨fun _ => ?_, fun h => absurd h (by decide)⟩ | refine ⟨fun h => absurd h (by decide), fun _ => ?_⟩)
      exact rA_x hT rfl
    · skip
      repeat (first | refine ⟨_, mg_Fs rfl rfl, ?_⟩ | refine ⟨_, mg_Fd rfl rfl, ?_⟩ | refine ⟨Or.inl rfl, ?_⟩ | refine ⟨Or.inr ⟨_, rfl⟩, ?_⟩ | refine ⟨fun _ => ?_, fun h => absurd h (by decide)⟩ | refine ⟨fun h => absurd h (by decide), fun _ => ?_⟩)
      refine mg_cv (r306 d hI) (by omega) ?_
      repeat (first | refine ⟨_, mg_Fs rfl rfl, ?_⟩ | refine ⟨_, mg_Fd rfl rfl, ?_⟩ | refine ⟨Or.inl rfl, ?_⟩ | refine ⟨Or.inr ⟨_, rfl⟩, ?_⟩ | refine ⟨fun _ => ?_, fun h => absurd h (by decide)⟩ | refine ⟨fun h => absurd h (by decide), fun _ => ?_⟩)
      refine mg_cv (r176_1 d _ _) (by omega) ?_
      repeat (first | refine ⟨_, mg_Fs rfl rfl, ?_⟩ | refine ⟨_, mg_Fd rfl rfl, ?_⟩ | refine ⟨Or.inl rfl, ?_⟩ | refine ⟨Or.inr ⟨_, rfl⟩, ?_⟩ | refine ⟨fun _ => ?_, fun h => absurd h (by decide)⟩ | refine ⟨fun h => absurd h (by decide), fun _ => ?_⟩)
      exact rA_x hT rfl
  | some jf =>
    obtain ⟨rfl, hif⟩ := vi_s hf
    rw [pF_y hf]
    cases hg : vi g (aF (sA S)) with
    | none =>
      rw [pF_x hg]
      refine mg_me [] 150 my_307 ms_307 (Nat.le_of_ble_eq_true rfl) ?_
      repeat (first | refine ⟨_, mg_Fs rfl rfl, ?_⟩ | refine ⟨_, mg_Fd rfl rfl, ?_⟩ | refine ⟨Or.inl rfl, ?_⟩ | refine ⟨Or.inr ⟨_, rfl⟩, ?_⟩ | refine ⟨fun _ => ?_, fun h => absurd h (by decide)⟩ | refine ⟨fun h => absurd h (by decide), fun _ => ?_⟩)
      refine mg_cv (r181y d hI hf) (by omega) ?_
      repeat (first | refine ⟨_, mg_Fs rfl rfl, ?_⟩ | refine ⟨_, mg_Fd rfl rfl, ?_⟩ | refine ⟨Or.inl rfl, ?_⟩ | refine ⟨Or.inr ⟨_, rfl⟩, ?_⟩ | refine ⟨fun _ => ?_, fun h => absurd h (by decide)⟩ | refine ⟨fun h => absurd h (by decide), fun _ => ?_⟩)
      refine mg_cv (r181x d hI hg) (by omega) ?_
      repeat (first | refine ⟨_, mg_Fs rfl rfl, ?_⟩ | refine ⟨_, mg_Fd rfl rfl, ?_⟩ | refine ⟨Or.inl rfl, ?_⟩ | refine ⟨Or.inr ⟨_, rfl⟩, ?_⟩ | refine ⟨fun _ => ?_, fun h => absurd h (by decide)⟩ | refine ⟨fun h => absurd h (by decide), fun _ => ?_⟩)
      refine mg_cv (r177 d op 0 _ G) (by omega) ?_
      refine ⟨fun _ => ?_, fun _ => ?_⟩
      · skip
        repeat (first | refine ⟨_, mg_Fs rfl rfl, ?_⟩ | refine ⟨_, mg_Fd rfl rfl, ?_⟩ | refine ⟨Or.inl rfl, ?_⟩ | refine ⟨Or.inr ⟨_, rfl⟩, ?_⟩ | refine ⟨fun _ => ?_, fun h => absurd h (by decide)⟩ | refine ⟨fun h => absurd h (by decide), fun _ => ?_⟩)
        refine mg_cv (r306 d hI) (by omega) ?_
        repeat (first | refine ⟨_, mg_Fs rfl rfl, ?_⟩ | refine ⟨_, mg_Fd rfl rfl, ?_⟩ | refine ⟨Or.inl rfl, ?_⟩ | refine ⟨Or.inr ⟨_, rfl⟩, ?_⟩ | refine ⟨fun _ => ?_, fun h => absurd h (by decide)⟩ | refine ⟨fun h => absurd h (by decide), fun _ => ?_⟩)
        refine mg_cv (r176_1 d _ _) (by omega) ?_
        repeat (first | refine ⟨_, mg_Fs rfl rfl, ?_⟩ | refine ⟨_, mg_Fd rfl rfl, ?_⟩ | refine ⟨Or.inl rfl, ?_⟩ | refine ⟨Or.inr ⟨_, rfl⟩, ?_⟩ | refine ⟨fun _ => ?_, fun h => absurd h (by decide)⟩ | refine ⟨fun h => absurd h (by decide), fun _ => ?_⟩)
        exact rA_x hT rfl
      · skip
        repeat (first | refine ⟨_, mg_Fs rfl rfl, ?_⟩ | refine ⟨_, mg_Fd rfl rfl, ?_⟩ | refine ⟨Or.inl rfl, ?_⟩ | refine ⟨Or.inr ⟨_, rfl⟩, ?_⟩ | refine ⟨fun _ => ?_, fun h => absurd h (by decide)⟩ | refine ⟨fun h => absurd h (by decide), fun _ => ?_⟩)
        refine mg_cv (r306 d hI) (by omega) ?_
        repeat (first | refine ⟨_, mg_Fs rfl rfl, ?_⟩ | refine ⟨_, mg_Fd rfl rfl, ?_⟩ | refine ⟨Or.inl rfl, ?_⟩ | refine ⟨Or.inr ⟨_, rfl⟩, ?_⟩ | refine ⟨fun _ => ?_, fun h => absurd h (by decide)⟩ | refine ⟨fun h => absurd h (by decide), fun _ => ?_⟩)
        refine mg_cv (r176_1 d _ _) (by omega) ?_
        repeat (first | refine ⟨_, mg_Fs rfl rfl, ?_⟩ | refine ⟨_, mg_Fd rfl rfl, ?_⟩ | refine ⟨Or.inl rfl, ?_⟩ | refine ⟨Or.inr ⟨_, rfl⟩, ?_⟩ | refine ⟨fun _ => ?_, fun h => absurd h (by decide)⟩ | refine ⟨fun h => absurd h (by decide), fun _ => ?_⟩)
        exact rA_x hT rfl
    | some jg =>
      obtain ⟨rfl, hig⟩ := vi_s hg
      rw [pF_y hg]
      cases hop : vi op 6 with
      | none =>
        refine mg_me [] 150 my_307 ms_307 (Nat.le_of_ble_eq_true rfl) ?_
        repeat (first | refine ⟨_, mg_Fs rfl rfl, ?_⟩ | refine ⟨_, mg_Fd rfl rfl, ?_⟩ | refine ⟨Or.inl rfl, ?_⟩ | refine ⟨Or.inr ⟨_, rfl⟩, ?_⟩ | refine ⟨fun _ => ?_, fun h => absurd h (by decide)⟩ | refine ⟨fun h => absurd h (by decide), fun _ => ?_⟩)
        refine mg_cv (r181y d hI hf) (by omega) ?_
        repeat (first | refine ⟨_, mg_Fs rfl rfl, ?_⟩ | refine ⟨_, mg_Fd rfl rfl, ?_⟩ | refine ⟨Or.inl rfl, ?_⟩ | refine ⟨Or.inr ⟨_, rfl⟩, ?_⟩ | refine ⟨fun _ => ?_, fun h => absurd h (by decide)⟩ | refine ⟨fun h => absurd h (by decide), fun _ => ?_⟩)
        refine mg_cv (r181y d hI hg) (by omega) ?_
        repeat (first | refine ⟨_, mg_Fs rfl rfl, ?_⟩ | refine ⟨_, mg_Fd rfl rfl, ?_⟩ | refine ⟨Or.inl rfl, ?_⟩ | refine ⟨Or.inr ⟨_, rfl⟩, ?_⟩ | refine ⟨fun _ => ?_, fun h => absurd h (by decide)⟩ | refine ⟨fun h => absurd h (by decide), fun _ => ?_⟩)
        refine mg_cv (r177x d hop (by decide) (by decide)) (by omega) ?_
        repeat (first | refine ⟨_, mg_Fs rfl rfl, ?_⟩ | refine ⟨_, mg_Fd rfl rfl, ?_⟩ | refine ⟨Or.inl rfl, ?_⟩ | refine ⟨Or.inr ⟨_, rfl⟩, ?_⟩ | refine ⟨fun _ => ?_, fun h => absurd h (by decide)⟩ | refine ⟨fun h => absurd h (by decide), fun _ => ?_⟩)
        refine mg_cv (r306 d hI) (by omega) ?_
        repeat (first | refine ⟨_, mg_Fs rfl rfl, ?_⟩ | refine ⟨_, mg_Fd rfl rfl, ?_⟩ | refine ⟨Or.inl rfl, ?_⟩ | refine ⟨Or.inr ⟨_, rfl⟩, ?_⟩ | refine ⟨fun _ => ?_, fun h => absurd h (by decide)⟩ | refine ⟨fun h => absurd h (by decide), fun _ => ?_⟩)
        refine mg_cv (r176_2 d _) (by omega) ?_
        repeat (first | refine ⟨_, mg_Fs rfl rfl, ?_⟩ | refine ⟨_, mg_Fd rfl rfl, ?_⟩ | refine ⟨Or.inl rfl, ?_⟩ | refine ⟨Or.inr ⟨_, rfl⟩, ?_⟩ | refine ⟨fun _ => ?_, fun h => absurd h (by decide)⟩ | refine ⟨fun h => absurd h (by decide), fun _ => ?_⟩)
        exact rA_x hT rfl
      | some jop =>
        show mg_m _ _ 307 _ _ (rA G (pNew3 S _).1 (pNew3 S _).2)
        unfold pNew3
        by_cases h11 : aF (sA S) = 12
        · rw [if_pos h11]
          have h306 := r306 (scr := scr) (t := t) d hI
          rw [if_pos h11] at h306
          refine mg_me [] 150 my_307 ms_307 (Nat.le_of_ble_eq_true rfl) ?_
          repeat (first | refine ⟨_, mg_Fs rfl rfl, ?_⟩ | refine ⟨_, mg_Fd rfl rfl, ?_⟩ | refine ⟨Or.inl rfl, ?_⟩ | refine ⟨Or.inr ⟨_, rfl⟩, ?_⟩ | refine ⟨fun _ => ?_, fun h => absurd h (by decide)⟩ | refine ⟨fun h => absurd h (by decide), fun _ => ?_⟩)
          refine mg_cv (r181y d hI hf) (by omega) ?_
          repeat (first | refine ⟨_, mg_Fs rfl rfl, ?_⟩ | refine ⟨_, mg_Fd rfl rfl, ?_⟩ | refine ⟨Or.inl rfl, ?_⟩ | refine ⟨Or.inr ⟨_, rfl⟩, ?_⟩ | refine ⟨fun _ => ?_, fun h => absurd h (by decide)⟩ | refine ⟨fun h => absurd h (by decide), fun _ => ?_⟩)
          refine mg_cv (r181y d hI hg) (by omega) ?_
          repeat (first | refine ⟨_, mg_Fs rfl rfl, ?_⟩ | refine ⟨_, mg_Fd rfl rfl, ?_⟩ | refine ⟨Or.inl rfl, ?_⟩ | refine ⟨Or.inr ⟨_, rfl⟩, ?_⟩ | refine ⟨fun _ => ?_, fun h => absurd h (by decide)⟩ | refine ⟨fun h => absurd h (by decide), fun _ => ?_⟩)
          refine mg_cv (r177y d hop (by decide) (by decide)) (by omega) ?_
          repeat (first | refine ⟨_, mg_Fs rfl rfl, ?_⟩ | refine ⟨_, mg_Fd rfl rfl, ?_⟩ | refine ⟨Or.inl rfl, ?_⟩ | refine ⟨Or.inr ⟨_, rfl⟩, ?_⟩ | refine ⟨fun _ => ?_, fun h => absurd h (by decide)⟩ | refine ⟨fun h => absurd h (by decide), fun _ => ?_⟩)
          refine mg_cv (h306) (by omega) ?_
          repeat (first | refine ⟨_, mg_Fs rfl rfl, ?_⟩ | refine ⟨_, mg_Fd rfl rfl, ?_⟩ | refine ⟨Or.inl rfl, ?_⟩ | refine ⟨Or.inr ⟨_, rfl⟩, ?_⟩ | refine ⟨fun _ => ?_, fun h => absurd h (by decide)⟩ | refine ⟨fun h => absurd h (by decide), fun _ => ?_⟩)
          refine mg_cv (r176_3 d) (by omega) ?_
          repeat (first | refine ⟨_, mg_Fs rfl rfl, ?_⟩ | refine ⟨_, mg_Fd rfl rfl, ?_⟩ | refine ⟨Or.inl rfl, ?_⟩ | refine ⟨Or.inr ⟨_, rfl⟩, ?_⟩ | refine ⟨fun _ => ?_, fun h => absurd h (by decide)⟩ | refine ⟨fun h => absurd h (by decide), fun _ => ?_⟩)
          exact rA_x hT rfl
        · rw [if_neg h11]
          have h306 := r306 (scr := scr) (t := t) d hI
          rw [if_neg h11] at h306
          refine mg_me [] 150 my_307 ms_307 (Nat.le_of_ble_eq_true rfl) ?_
          repeat (first | refine ⟨_, mg_Fs rfl rfl, ?_⟩ | refine ⟨_, mg_Fd rfl rfl, ?_⟩ | refine ⟨Or.inl rfl, ?_⟩ | refine ⟨Or.inr ⟨_, rfl⟩, ?_⟩ | refine ⟨fun _ => ?_, fun h => absurd h (by decide)⟩ | refine ⟨fun h => absurd h (by decide), fun _ => ?_⟩)
          refine mg_cv (r181y d hI hf) (by omega) ?_
          repeat (first | refine ⟨_, mg_Fs rfl rfl, ?_⟩ | refine ⟨_, mg_Fd rfl rfl, ?_⟩ | refine ⟨Or.inl rfl, ?_⟩ | refine ⟨Or.inr ⟨_, rfl⟩, ?_⟩ | refine ⟨fun _ => ?_, fun h => absurd h (by decide)⟩ | refine ⟨fun h => absurd h (by decide), fun _ => ?_⟩)
          refine mg_cv (r181y d hI hg) (by omega) ?_
          repeat (first | refine ⟨_, mg_Fs rfl rfl, ?_⟩ | refine ⟨_, mg_Fd rfl rfl, ?_⟩ | refine ⟨Or.inl rfl, ?_⟩ | refine ⟨Or.inr ⟨_, rfl⟩, ?_⟩ | refine ⟨fun _ => ?_, fun h => absurd h (by decide)⟩ | refine ⟨fun h => absurd h (by decide), fun _ => ?_⟩)
          refine mg_cv (r177y d hop (by decide) (by decide)) (by omega) ?_
          repeat (first | refine ⟨_, mg_Fs rfl rfl, ?_⟩ | refine ⟨_, mg_Fd rfl rfl, ?_⟩ | refine ⟨Or.inl rfl, ?_⟩ | refine ⟨Or.inr ⟨_, rfl⟩, ?_⟩ | refine ⟨fun _ => ?_, fun h => absurd h (by decide)⟩ | refine ⟨fun h => absurd h (by decide), fun _ => ?_⟩)
          refine mg_cv (h306) (by omega) ?_
          repeat (first | refine ⟨_, mg_Fs rfl rfl, ?_⟩ | refine ⟨_, mg_Fd rfl rfl, ?_⟩ | refine ⟨Or.inl rfl, ?_⟩ | refine ⟨Or.inr ⟨_, rfl⟩, ?_⟩ | refine ⟨fun _ => ?_, fun h => absurd h (by decide)⟩ | refine ⟨fun h => absurd h (by decide), fun _ => ?_⟩)
          refine mg_cv (r176_0 d) (by omega) ?_
          repeat (first | refine ⟨_, mg_Fs rfl rfl, ?_⟩ | refine ⟨_, mg_Fd rfl rfl, ?_⟩ | refine ⟨Or.inl rfl, ?_⟩ | refine ⟨Or.inr ⟨_, rfl⟩, ?_⟩ | refine ⟨fun _ => ?_, fun h => absurd h (by decide)⟩ | refine ⟨fun h => absurd h (by decide), fun _ => ?_⟩)
          refine ⟨rfl, _, rfl, rfl, ?_⟩
          have hX0 : rX (mg_sF G 148 10 (.int 0)) (mg_sF (mg_sF G 148 10 (.int 0)) 148 28 (.int (Int32.ofInt 0))) := (rX.rf _).s _ (by decide)
          repeat (first | refine ⟨_, mg_Fs rfl rfl, ?_⟩ | refine ⟨_, mg_Fd rfl rfl, ?_⟩ | refine ⟨Or.inl rfl, ?_⟩ | refine ⟨Or.inr ⟨_, rfl⟩, ?_⟩ | refine ⟨fun _ => ?_, fun h => absurd h (by decide)⟩ | refine ⟨fun h => absurd h (by decide), fun _ => ?_⟩)
          refine mg_m_mono (r224 (d + 3) (hX0.I hI3) hif (rK_0 _) (show 0 < 400 by decide)) (by omega) ?_
          rintro o q G1 ⟨rfl, rfl, hY1, hK1⟩
          have hX1 := hX0.tr hY1
          repeat (first | refine ⟨_, mg_Fs rfl rfl, ?_⟩ | refine ⟨_, mg_Fd rfl rfl, ?_⟩ | refine ⟨Or.inl rfl, ?_⟩ | refine ⟨Or.inr ⟨_, rfl⟩, ?_⟩ | refine ⟨fun _ => ?_, fun h => absurd h (by decide)⟩ | refine ⟨fun h => absurd h (by decide), fun _ => ?_⟩)
          refine mg_m_mono (r224 (d + 3) (hX1.I hI3) hig hK1 (show 1 < 400 by decide)) (by omega) ?_
          rintro o q G2 ⟨rfl, rfl, hY2, hK2⟩
          have hX2 := hX1.tr hY2
          repeat (first | refine ⟨_, mg_Fs rfl rfl, ?_⟩ | refine ⟨_, mg_Fd rfl rfl, ?_⟩ | refine ⟨Or.inl rfl, ?_⟩ | refine ⟨Or.inr ⟨_, rfl⟩, ?_⟩ | refine ⟨fun _ => ?_, fun h => absurd h (by decide)⟩ | refine ⟨fun h => absurd h (by decide), fun _ => ?_⟩)
          refine mg_m_mono (r227 d op (ts := []) hK2 (by decide)) (by omega) ?_
          rintro o q G5 ⟨rfl, rfl, hX5, hK5⟩
          repeat (first | refine ⟨_, mg_Fs rfl rfl, ?_⟩ | refine ⟨_, mg_Fd rfl rfl, ?_⟩ | refine ⟨Or.inl rfl, ?_⟩ | refine ⟨Or.inr ⟨_, rfl⟩, ?_⟩ | refine ⟨fun _ => ?_, fun h => absurd h (by decide)⟩ | refine ⟨fun h => absurd h (by decide), fun _ => ?_⟩)
          refine mg_m_mono (rAdd d hT (hX2.tr hX5) (rK_row hK5) (by omega) (a_per_op op (hper _ hif) (hper _ hig))) (by omega) ?_
          rintro o q G3 ⟨rfl, rfl, h1⟩
          exact ⟨Or.inl rfl, rfl, rfl, h1⟩
theorem r308 (d : Nat) (hT : rT G S) (f g h : Int32) : mg_m (mg_KM scr t) (d + 7) 308 [.ref 148, .int f, .int g, .int h] G (rAp G (p308 S f g h)) := by
  have hI := hT.I
  have h8 := hI.v8
  have h12 := hI.f12
  have hper := hI.W.2.2.2.1
  have hI3 : rI (mg_sF G 148 10 (.int 0)) (sA S) := hI
  unfold p308 rAp
  cases hf : vi f (aF (sA S)) with
  | none =>
    rw [pF_x hf]
    refine mg_me [] 150 my_308 ms_308 (Nat.le_of_ble_eq_true rfl) ?_
    repeat (first | refine ⟨_, mg_Fs rfl rfl, ?_⟩ | refine ⟨_, mg_Fd rfl rfl, ?_⟩ | refine ⟨Or.inl rfl, ?_⟩ | refine ⟨Or.inr ⟨_, rfl⟩, ?_⟩ | refine ⟨fun _ => ?_, fun h => absurd h (by decide)⟩ | refine ⟨fun h => absurd h (by decide), fun _ => ?_⟩)
    refine mg_cv (r181x d hI hf) (by omega) ?_
    repeat (first | refine ⟨_, mg_Fs rfl rfl, ?_⟩ | refine ⟨_, mg_Fd rfl rfl, ?_⟩ | refine ⟨Or.inl rfl, ?_⟩ | refine ⟨Or.inr ⟨_, rfl⟩, ?_⟩ | refine ⟨fun _ => ?_, fun h => absurd h (by decide)⟩ | refine ⟨fun h => absurd h (by decide), fun _ => ?_⟩)
    refine mg_cv (r306 d hI) (by omega) ?_
    repeat (first | refine ⟨_, mg_Fs rfl rfl, ?_⟩ | refine ⟨_, mg_Fd rfl rfl, ?_⟩ | refine ⟨Or.inl rfl, ?_⟩ | refine ⟨Or.inr ⟨_, rfl⟩, ?_⟩ | refine ⟨fun _ => ?_, fun h => absurd h (by decide)⟩ | refine ⟨fun h => absurd h (by decide), fun _ => ?_⟩)
    refine mg_cv (r176_1 d _ _) (by omega) ?_
    repeat (first | refine ⟨_, mg_Fs rfl rfl, ?_⟩ | refine ⟨_, mg_Fd rfl rfl, ?_⟩ | refine ⟨Or.inl rfl, ?_⟩ | refine ⟨Or.inr ⟨_, rfl⟩, ?_⟩ | refine ⟨fun _ => ?_, fun h => absurd h (by decide)⟩ | refine ⟨fun h => absurd h (by decide), fun _ => ?_⟩)
    exact rA_x hT rfl
  | some jf =>
    obtain ⟨rfl, hif⟩ := vi_s hf
    rw [pF_y hf]
    cases hg : vi g (aF (sA S)) with
    | none =>
      rw [pF_x hg]
      refine mg_me [] 150 my_308 ms_308 (Nat.le_of_ble_eq_true rfl) ?_
      repeat (first | refine ⟨_, mg_Fs rfl rfl, ?_⟩ | refine ⟨_, mg_Fd rfl rfl, ?_⟩ | refine ⟨Or.inl rfl, ?_⟩ | refine ⟨Or.inr ⟨_, rfl⟩, ?_⟩ | refine ⟨fun _ => ?_, fun h => absurd h (by decide)⟩ | refine ⟨fun h => absurd h (by decide), fun _ => ?_⟩)
      refine mg_cv (r181y d hI hf) (by omega) ?_
      repeat (first | refine ⟨_, mg_Fs rfl rfl, ?_⟩ | refine ⟨_, mg_Fd rfl rfl, ?_⟩ | refine ⟨Or.inl rfl, ?_⟩ | refine ⟨Or.inr ⟨_, rfl⟩, ?_⟩ | refine ⟨fun _ => ?_, fun h => absurd h (by decide)⟩ | refine ⟨fun h => absurd h (by decide), fun _ => ?_⟩)
      refine mg_cv (r181x d hI hg) (by omega) ?_
      repeat (first | refine ⟨_, mg_Fs rfl rfl, ?_⟩ | refine ⟨_, mg_Fd rfl rfl, ?_⟩ | refine ⟨Or.inl rfl, ?_⟩ | refine ⟨Or.inr ⟨_, rfl⟩, ?_⟩ | refine ⟨fun _ => ?_, fun h => absurd h (by decide)⟩ | refine ⟨fun h => absurd h (by decide), fun _ => ?_⟩)
      refine mg_cv (r306 d hI) (by omega) ?_
      repeat (first | refine ⟨_, mg_Fs rfl rfl, ?_⟩ | refine ⟨_, mg_Fd rfl rfl, ?_⟩ | refine ⟨Or.inl rfl, ?_⟩ | refine ⟨Or.inr ⟨_, rfl⟩, ?_⟩ | refine ⟨fun _ => ?_, fun h => absurd h (by decide)⟩ | refine ⟨fun h => absurd h (by decide), fun _ => ?_⟩)
      refine mg_cv (r176_1 d _ _) (by omega) ?_
      repeat (first | refine ⟨_, mg_Fs rfl rfl, ?_⟩ | refine ⟨_, mg_Fd rfl rfl, ?_⟩ | refine ⟨Or.inl rfl, ?_⟩ | refine ⟨Or.inr ⟨_, rfl⟩, ?_⟩ | refine ⟨fun _ => ?_, fun h => absurd h (by decide)⟩ | refine ⟨fun h => absurd h (by decide), fun _ => ?_⟩)
      exact rA_x hT rfl
    | some jg =>
      obtain ⟨rfl, hig⟩ := vi_s hg
      rw [pF_y hg]
      cases hh : vi h (aF (sA S)) with
      | none =>
        rw [pF_x hh]
        refine mg_me [] 150 my_308 ms_308 (Nat.le_of_ble_eq_true rfl) ?_
        repeat (first | refine ⟨_, mg_Fs rfl rfl, ?_⟩ | refine ⟨_, mg_Fd rfl rfl, ?_⟩ | refine ⟨Or.inl rfl, ?_⟩ | refine ⟨Or.inr ⟨_, rfl⟩, ?_⟩ | refine ⟨fun _ => ?_, fun h => absurd h (by decide)⟩ | refine ⟨fun h => absurd h (by decide), fun _ => ?_⟩)
        refine mg_cv (r181y d hI hf) (by omega) ?_
        repeat (first | refine ⟨_, mg_Fs rfl rfl, ?_⟩ | refine ⟨_, mg_Fd rfl rfl, ?_⟩ | refine ⟨Or.inl rfl, ?_⟩ | refine ⟨Or.inr ⟨_, rfl⟩, ?_⟩ | refine ⟨fun _ => ?_, fun h => absurd h (by decide)⟩ | refine ⟨fun h => absurd h (by decide), fun _ => ?_⟩)
        refine mg_cv (r181y d hI hg) (by omega) ?_
        repeat (first | refine ⟨_, mg_Fs rfl rfl, ?_⟩ | refine ⟨_, mg_Fd rfl rfl, ?_⟩ | refine ⟨Or.inl rfl, ?_⟩ | refine ⟨Or.inr ⟨_, rfl⟩, ?_⟩ | refine ⟨fun _ => ?_, fun h => absurd h (by decide)⟩ | refine ⟨fun h => absurd h (by decide), fun _ => ?_⟩)
        refine mg_cv (r181x d hI hh) (by omega) ?_
        repeat (first | refine ⟨_, mg_Fs rfl rfl, ?_⟩ | refine ⟨_, mg_Fd rfl rfl, ?_⟩ | refine ⟨Or.inl rfl, ?_⟩ | refine ⟨Or.inr ⟨_, rfl⟩, ?_⟩ | refine ⟨fun _ => ?_, fun h => absurd h (by decide)⟩ | refine ⟨fun h => absurd h (by decide), fun _ => ?_⟩)
        refine mg_cv (r306 d hI) (by omega) ?_
        repeat (first | refine ⟨_, mg_Fs rfl rfl, ?_⟩ | refine ⟨_, mg_Fd rfl rfl, ?_⟩ | refine ⟨Or.inl rfl, ?_⟩ | refine ⟨Or.inr ⟨_, rfl⟩, ?_⟩ | refine ⟨fun _ => ?_, fun h => absurd h (by decide)⟩ | refine ⟨fun h => absurd h (by decide), fun _ => ?_⟩)
        refine mg_cv (r176_1 d _ _) (by omega) ?_
        repeat (first | refine ⟨_, mg_Fs rfl rfl, ?_⟩ | refine ⟨_, mg_Fd rfl rfl, ?_⟩ | refine ⟨Or.inl rfl, ?_⟩ | refine ⟨Or.inr ⟨_, rfl⟩, ?_⟩ | refine ⟨fun _ => ?_, fun h => absurd h (by decide)⟩ | refine ⟨fun h => absurd h (by decide), fun _ => ?_⟩)
        exact rA_x hT rfl
      | some jh =>
        obtain ⟨rfl, hih⟩ := vi_s hh
        rw [pF_y hh]
        unfold pNew
        by_cases h11 : aF (sA S) = 12
        · rw [if_pos h11]
          have h306 := r306 (scr := scr) (t := t) d hI
          rw [if_pos h11] at h306
          refine mg_me [] 150 my_308 ms_308 (Nat.le_of_ble_eq_true rfl) ?_
          repeat (first | refine ⟨_, mg_Fs rfl rfl, ?_⟩ | refine ⟨_, mg_Fd rfl rfl, ?_⟩ | refine ⟨Or.inl rfl, ?_⟩ | refine ⟨Or.inr ⟨_, rfl⟩, ?_⟩ | refine ⟨fun _ => ?_, fun h => absurd h (by decide)⟩ | refine ⟨fun h => absurd h (by decide), fun _ => ?_⟩)
          refine mg_cv (r181y d hI hf) (by omega) ?_
          repeat (first | refine ⟨_, mg_Fs rfl rfl, ?_⟩ | refine ⟨_, mg_Fd rfl rfl, ?_⟩ | refine ⟨Or.inl rfl, ?_⟩ | refine ⟨Or.inr ⟨_, rfl⟩, ?_⟩ | refine ⟨fun _ => ?_, fun h => absurd h (by decide)⟩ | refine ⟨fun h => absurd h (by decide), fun _ => ?_⟩)
          refine mg_cv (r181y d hI hg) (by omega) ?_
          repeat (first | refine ⟨_, mg_Fs rfl rfl, ?_⟩ | refine ⟨_, mg_Fd rfl rfl, ?_⟩ | refine ⟨Or.inl rfl, ?_⟩ | refine ⟨Or.inr ⟨_, rfl⟩, ?_⟩ | refine ⟨fun _ => ?_, fun h => absurd h (by decide)⟩ | refine ⟨fun h => absurd h (by decide), fun _ => ?_⟩)
          refine mg_cv (r181y d hI hh) (by omega) ?_
          repeat (first | refine ⟨_, mg_Fs rfl rfl, ?_⟩ | refine ⟨_, mg_Fd rfl rfl, ?_⟩ | refine ⟨Or.inl rfl, ?_⟩ | refine ⟨Or.inr ⟨_, rfl⟩, ?_⟩ | refine ⟨fun _ => ?_, fun h => absurd h (by decide)⟩ | refine ⟨fun h => absurd h (by decide), fun _ => ?_⟩)
          refine mg_cv (h306) (by omega) ?_
          repeat (first | refine ⟨_, mg_Fs rfl rfl, ?_⟩ | refine ⟨_, mg_Fd rfl rfl, ?_⟩ | refine ⟨Or.inl rfl, ?_⟩ | refine ⟨Or.inr ⟨_, rfl⟩, ?_⟩ | refine ⟨fun _ => ?_, fun h => absurd h (by decide)⟩ | refine ⟨fun h => absurd h (by decide), fun _ => ?_⟩)
          refine mg_cv (r176_2 d _) (by omega) ?_
          repeat (first | refine ⟨_, mg_Fs rfl rfl, ?_⟩ | refine ⟨_, mg_Fd rfl rfl, ?_⟩ | refine ⟨Or.inl rfl, ?_⟩ | refine ⟨Or.inr ⟨_, rfl⟩, ?_⟩ | refine ⟨fun _ => ?_, fun h => absurd h (by decide)⟩ | refine ⟨fun h => absurd h (by decide), fun _ => ?_⟩)
          exact rA_x hT rfl
        · rw [if_neg h11]
          have h306 := r306 (scr := scr) (t := t) d hI
          rw [if_neg h11] at h306
          refine mg_me [] 150 my_308 ms_308 (Nat.le_of_ble_eq_true rfl) ?_
          repeat (first | refine ⟨_, mg_Fs rfl rfl, ?_⟩ | refine ⟨_, mg_Fd rfl rfl, ?_⟩ | refine ⟨Or.inl rfl, ?_⟩ | refine ⟨Or.inr ⟨_, rfl⟩, ?_⟩ | refine ⟨fun _ => ?_, fun h => absurd h (by decide)⟩ | refine ⟨fun h => absurd h (by decide), fun _ => ?_⟩)
          refine mg_cv (r181y d hI hf) (by omega) ?_
          repeat (first | refine ⟨_, mg_Fs rfl rfl, ?_⟩ | refine ⟨_, mg_Fd rfl rfl, ?_⟩ | refine ⟨Or.inl rfl, ?_⟩ | refine ⟨Or.inr ⟨_, rfl⟩, ?_⟩ | refine ⟨fun _ => ?_, fun h => absurd h (by decide)⟩ | refine ⟨fun h => absurd h (by decide), fun _ => ?_⟩)
          refine mg_cv (r181y d hI hg) (by omega) ?_
          repeat (first | refine ⟨_, mg_Fs rfl rfl, ?_⟩ | refine ⟨_, mg_Fd rfl rfl, ?_⟩ | refine ⟨Or.inl rfl, ?_⟩ | refine ⟨Or.inr ⟨_, rfl⟩, ?_⟩ | refine ⟨fun _ => ?_, fun h => absurd h (by decide)⟩ | refine ⟨fun h => absurd h (by decide), fun _ => ?_⟩)
          refine mg_cv (r181y d hI hh) (by omega) ?_
          repeat (first | refine ⟨_, mg_Fs rfl rfl, ?_⟩ | refine ⟨_, mg_Fd rfl rfl, ?_⟩ | refine ⟨Or.inl rfl, ?_⟩ | refine ⟨Or.inr ⟨_, rfl⟩, ?_⟩ | refine ⟨fun _ => ?_, fun h => absurd h (by decide)⟩ | refine ⟨fun h => absurd h (by decide), fun _ => ?_⟩)
          refine mg_cv (h306) (by omega) ?_
          repeat (first | refine ⟨_, mg_Fs rfl rfl, ?_⟩ | refine ⟨_, mg_Fd rfl rfl, ?_⟩ | refine ⟨Or.inl rfl, ?_⟩ | refine ⟨Or.inr ⟨_, rfl⟩, ?_⟩ | refine ⟨fun _ => ?_, fun h => absurd h (by decide)⟩ | refine ⟨fun h => absurd h (by decide), fun _ => ?_⟩)
          refine mg_cv (r176_0 d) (by omega) ?_
          repeat (first | refine ⟨_, mg_Fs rfl rfl, ?_⟩ | refine ⟨_, mg_Fd rfl rfl, ?_⟩ | refine ⟨Or.inl rfl, ?_⟩ | refine ⟨Or.inr ⟨_, rfl⟩, ?_⟩ | refine ⟨fun _ => ?_, fun h => absurd h (by decide)⟩ | refine ⟨fun h => absurd h (by decide), fun _ => ?_⟩)
          refine ⟨rfl, _, rfl, rfl, ?_⟩
          have hX0 : rX (mg_sF G 148 10 (.int 0)) (mg_sF (mg_sF G 148 10 (.int 0)) 148 28 (.int (Int32.ofInt 0))) := (rX.rf _).s _ (by decide)
          repeat (first | refine ⟨_, mg_Fs rfl rfl, ?_⟩ | refine ⟨_, mg_Fd rfl rfl, ?_⟩ | refine ⟨Or.inl rfl, ?_⟩ | refine ⟨Or.inr ⟨_, rfl⟩, ?_⟩ | refine ⟨fun _ => ?_, fun h => absurd h (by decide)⟩ | refine ⟨fun h => absurd h (by decide), fun _ => ?_⟩)
          refine mg_m_mono (r224 (d + 3) (hX0.I hI3) hif (rK_0 _) (show 0 < 400 by decide)) (by omega) ?_
          rintro o q G1 ⟨rfl, rfl, hY1, hK1⟩
          have hX1 := hX0.tr hY1
          repeat (first | refine ⟨_, mg_Fs rfl rfl, ?_⟩ | refine ⟨_, mg_Fd rfl rfl, ?_⟩ | refine ⟨Or.inl rfl, ?_⟩ | refine ⟨Or.inr ⟨_, rfl⟩, ?_⟩ | refine ⟨fun _ => ?_, fun h => absurd h (by decide)⟩ | refine ⟨fun h => absurd h (by decide), fun _ => ?_⟩)
          refine mg_m_mono (r224 (d + 3) (hX1.I hI3) hig hK1 (show 1 < 400 by decide)) (by omega) ?_
          rintro o q G2 ⟨rfl, rfl, hY2, hK2⟩
          have hX2 := hX1.tr hY2
          repeat (first | refine ⟨_, mg_Fs rfl rfl, ?_⟩ | refine ⟨_, mg_Fd rfl rfl, ?_⟩ | refine ⟨Or.inl rfl, ?_⟩ | refine ⟨Or.inr ⟨_, rfl⟩, ?_⟩ | refine ⟨fun _ => ?_, fun h => absurd h (by decide)⟩ | refine ⟨fun h => absurd h (by decide), fun _ => ?_⟩)
          refine mg_m_mono (r224 (d + 3) (hX2.I hI3) hih hK2 (show 2 < 400 by decide)) (by omega) ?_
          rintro o q G3 ⟨rfl, rfl, hY3, hK3⟩
          have hX3 := hX2.tr hY3
          repeat (first | refine ⟨_, mg_Fs rfl rfl, ?_⟩ | refine ⟨_, mg_Fd rfl rfl, ?_⟩ | refine ⟨Or.inl rfl, ?_⟩ | refine ⟨Or.inr ⟨_, rfl⟩, ?_⟩ | refine ⟨fun _ => ?_, fun h => absurd h (by decide)⟩ | refine ⟨fun h => absurd h (by decide), fun _ => ?_⟩)
          refine mg_m_mono (r228 d (ts := []) hK3 (by decide)) (by omega) ?_
          rintro o q G5 ⟨rfl, rfl, hX5, hK5⟩
          repeat (first | refine ⟨_, mg_Fs rfl rfl, ?_⟩ | refine ⟨_, mg_Fd rfl rfl, ?_⟩ | refine ⟨Or.inl rfl, ?_⟩ | refine ⟨Or.inr ⟨_, rfl⟩, ?_⟩ | refine ⟨fun _ => ?_, fun h => absurd h (by decide)⟩ | refine ⟨fun h => absurd h (by decide), fun _ => ?_⟩)
          refine mg_m_mono (rAdd d hT (hX3.tr hX5) (rK_row hK5) (by omega) (a_per_sel (hper _ hif) (hper _ hig) (hper _ hih))) (by omega) ?_
          rintro o q G3 ⟨rfl, rfl, h1⟩
          exact ⟨Or.inl rfl, rfl, rfl, h1⟩
theorem r311 (d : Nat) (hT : rT G S) (f v : Int32) (b : Bool) : mg_m (mg_KM scr t) (d + 7) 311 [.ref 148, .int f, .int v, .int (if b then 1 else 0)] G (rAp G (p311 S f v b)) := by
  have hI := hT.I
  have h8 := hI.v8
  have h12 := hI.f12
  have hper := hI.W.2.2.2.1
  have hI3 : rI (mg_sF G 148 10 (.int 0)) (sA S) := hI
  unfold p311 rAp
  cases hf : vi f (aF (sA S)) with
  | none =>
    rw [pF_x hf]
    refine mg_me [] 150 my_311 ms_311 (Nat.le_of_ble_eq_true rfl) ?_
    repeat (first | refine ⟨_, mg_Fs rfl rfl, ?_⟩ | refine ⟨_, mg_Fd rfl rfl, ?_⟩ | refine ⟨Or.inl rfl, ?_⟩ | refine ⟨Or.inr ⟨_, rfl⟩, ?_⟩ | refine ⟨fun _ => ?_, fun h => absurd h (by decide)⟩ | refine ⟨fun h => absurd h (by decide), fun _ => ?_⟩)
    refine mg_cv (r181x d hI hf) (by omega) ?_
    repeat (first | refine ⟨_, mg_Fs rfl rfl, ?_⟩ | refine ⟨_, mg_Fd rfl rfl, ?_⟩ | refine ⟨Or.inl rfl, ?_⟩ | refine ⟨Or.inr ⟨_, rfl⟩, ?_⟩ | refine ⟨fun _ => ?_, fun h => absurd h (by decide)⟩ | refine ⟨fun h => absurd h (by decide), fun _ => ?_⟩)
    refine mg_cv (r306 d hI) (by omega) ?_
    repeat (first | refine ⟨_, mg_Fs rfl rfl, ?_⟩ | refine ⟨_, mg_Fd rfl rfl, ?_⟩ | refine ⟨Or.inl rfl, ?_⟩ | refine ⟨Or.inr ⟨_, rfl⟩, ?_⟩ | refine ⟨fun _ => ?_, fun h => absurd h (by decide)⟩ | refine ⟨fun h => absurd h (by decide), fun _ => ?_⟩)
    refine mg_cv (r176_1 d _ _) (by omega) ?_
    repeat (first | refine ⟨_, mg_Fs rfl rfl, ?_⟩ | refine ⟨_, mg_Fd rfl rfl, ?_⟩ | refine ⟨Or.inl rfl, ?_⟩ | refine ⟨Or.inr ⟨_, rfl⟩, ?_⟩ | refine ⟨fun _ => ?_, fun h => absurd h (by decide)⟩ | refine ⟨fun h => absurd h (by decide), fun _ => ?_⟩)
    exact rA_x hT rfl
  | some jf =>
    obtain ⟨rfl, hif⟩ := vi_s hf
    rw [pF_y hf]
    cases hv : vi v (aV (sA S)) with
    | none =>
      rw [pV_x hv]
      refine mg_me [] 150 my_311 ms_311 (Nat.le_of_ble_eq_true rfl) ?_
      repeat (first | refine ⟨_, mg_Fs rfl rfl, ?_⟩ | refine ⟨_, mg_Fd rfl rfl, ?_⟩ | refine ⟨Or.inl rfl, ?_⟩ | refine ⟨Or.inr ⟨_, rfl⟩, ?_⟩ | refine ⟨fun _ => ?_, fun h => absurd h (by decide)⟩ | refine ⟨fun h => absurd h (by decide), fun _ => ?_⟩)
      refine mg_cv (r181y d hI hf) (by omega) ?_
      repeat (first | refine ⟨_, mg_Fs rfl rfl, ?_⟩ | refine ⟨_, mg_Fd rfl rfl, ?_⟩ | refine ⟨Or.inl rfl, ?_⟩ | refine ⟨Or.inr ⟨_, rfl⟩, ?_⟩ | refine ⟨fun _ => ?_, fun h => absurd h (by decide)⟩ | refine ⟨fun h => absurd h (by decide), fun _ => ?_⟩)
      refine mg_cv (r180x d hI hv) (by omega) ?_
      repeat (first | refine ⟨_, mg_Fs rfl rfl, ?_⟩ | refine ⟨_, mg_Fd rfl rfl, ?_⟩ | refine ⟨Or.inl rfl, ?_⟩ | refine ⟨Or.inr ⟨_, rfl⟩, ?_⟩ | refine ⟨fun _ => ?_, fun h => absurd h (by decide)⟩ | refine ⟨fun h => absurd h (by decide), fun _ => ?_⟩)
      refine mg_cv (r306 d hI) (by omega) ?_
      repeat (first | refine ⟨_, mg_Fs rfl rfl, ?_⟩ | refine ⟨_, mg_Fd rfl rfl, ?_⟩ | refine ⟨Or.inl rfl, ?_⟩ | refine ⟨Or.inr ⟨_, rfl⟩, ?_⟩ | refine ⟨fun _ => ?_, fun h => absurd h (by decide)⟩ | refine ⟨fun h => absurd h (by decide), fun _ => ?_⟩)
      refine mg_cv (r176_1 d _ _) (by omega) ?_
      repeat (first | refine ⟨_, mg_Fs rfl rfl, ?_⟩ | refine ⟨_, mg_Fd rfl rfl, ?_⟩ | refine ⟨Or.inl rfl, ?_⟩ | refine ⟨Or.inr ⟨_, rfl⟩, ?_⟩ | refine ⟨fun _ => ?_, fun h => absurd h (by decide)⟩ | refine ⟨fun h => absurd h (by decide), fun _ => ?_⟩)
      exact rA_x hT rfl
    | some jv =>
      obtain ⟨rfl, hiv⟩ := vi_s hv
      rw [pV_y hv]
      unfold pNew
      by_cases h11 : aF (sA S) = 12
      · rw [if_pos h11]
        have h306 := r306 (scr := scr) (t := t) d hI
        rw [if_pos h11] at h306
        refine mg_me [] 150 my_311 ms_311 (Nat.le_of_ble_eq_true rfl) ?_
        repeat (first | refine ⟨_, mg_Fs rfl rfl, ?_⟩ | refine ⟨_, mg_Fd rfl rfl, ?_⟩ | refine ⟨Or.inl rfl, ?_⟩ | refine ⟨Or.inr ⟨_, rfl⟩, ?_⟩ | refine ⟨fun _ => ?_, fun h => absurd h (by decide)⟩ | refine ⟨fun h => absurd h (by decide), fun _ => ?_⟩)
        refine mg_cv (r181y d hI hf) (by omega) ?_
        repeat (first | refine ⟨_, mg_Fs rfl rfl, ?_⟩ | refine ⟨_, mg_Fd rfl rfl, ?_⟩ | refine ⟨Or.inl rfl, ?_⟩ | refine ⟨Or.inr ⟨_, rfl⟩, ?_⟩ | refine ⟨fun _ => ?_, fun h => absurd h (by decide)⟩ | refine ⟨fun h => absurd h (by decide), fun _ => ?_⟩)
        refine mg_cv (r180y d hI hv) (by omega) ?_
        repeat (first | refine ⟨_, mg_Fs rfl rfl, ?_⟩ | refine ⟨_, mg_Fd rfl rfl, ?_⟩ | refine ⟨Or.inl rfl, ?_⟩ | refine ⟨Or.inr ⟨_, rfl⟩, ?_⟩ | refine ⟨fun _ => ?_, fun h => absurd h (by decide)⟩ | refine ⟨fun h => absurd h (by decide), fun _ => ?_⟩)
        refine mg_cv (h306) (by omega) ?_
        repeat (first | refine ⟨_, mg_Fs rfl rfl, ?_⟩ | refine ⟨_, mg_Fd rfl rfl, ?_⟩ | refine ⟨Or.inl rfl, ?_⟩ | refine ⟨Or.inr ⟨_, rfl⟩, ?_⟩ | refine ⟨fun _ => ?_, fun h => absurd h (by decide)⟩ | refine ⟨fun h => absurd h (by decide), fun _ => ?_⟩)
        refine mg_cv (r176_2 d _) (by omega) ?_
        repeat (first | refine ⟨_, mg_Fs rfl rfl, ?_⟩ | refine ⟨_, mg_Fd rfl rfl, ?_⟩ | refine ⟨Or.inl rfl, ?_⟩ | refine ⟨Or.inr ⟨_, rfl⟩, ?_⟩ | refine ⟨fun _ => ?_, fun h => absurd h (by decide)⟩ | refine ⟨fun h => absurd h (by decide), fun _ => ?_⟩)
        exact rA_x hT rfl
      · rw [if_neg h11]
        have h306 := r306 (scr := scr) (t := t) d hI
        rw [if_neg h11] at h306
        refine mg_me [] 150 my_311 ms_311 (Nat.le_of_ble_eq_true rfl) ?_
        repeat (first | refine ⟨_, mg_Fs rfl rfl, ?_⟩ | refine ⟨_, mg_Fd rfl rfl, ?_⟩ | refine ⟨Or.inl rfl, ?_⟩ | refine ⟨Or.inr ⟨_, rfl⟩, ?_⟩ | refine ⟨fun _ => ?_, fun h => absurd h (by decide)⟩ | refine ⟨fun h => absurd h (by decide), fun _ => ?_⟩)
        refine mg_cv (r181y d hI hf) (by omega) ?_
        repeat (first | refine ⟨_, mg_Fs rfl rfl, ?_⟩ | refine ⟨_, mg_Fd rfl rfl, ?_⟩ | refine ⟨Or.inl rfl, ?_⟩ | refine ⟨Or.inr ⟨_, rfl⟩, ?_⟩ | refine ⟨fun _ => ?_, fun h => absurd h (by decide)⟩ | refine ⟨fun h => absurd h (by decide), fun _ => ?_⟩)
        refine mg_cv (r180y d hI hv) (by omega) ?_
        repeat (first | refine ⟨_, mg_Fs rfl rfl, ?_⟩ | refine ⟨_, mg_Fd rfl rfl, ?_⟩ | refine ⟨Or.inl rfl, ?_⟩ | refine ⟨Or.inr ⟨_, rfl⟩, ?_⟩ | refine ⟨fun _ => ?_, fun h => absurd h (by decide)⟩ | refine ⟨fun h => absurd h (by decide), fun _ => ?_⟩)
        refine mg_cv (h306) (by omega) ?_
        repeat (first | refine ⟨_, mg_Fs rfl rfl, ?_⟩ | refine ⟨_, mg_Fd rfl rfl, ?_⟩ | refine ⟨Or.inl rfl, ?_⟩ | refine ⟨Or.inr ⟨_, rfl⟩, ?_⟩ | refine ⟨fun _ => ?_, fun h => absurd h (by decide)⟩ | refine ⟨fun h => absurd h (by decide), fun _ => ?_⟩)
        refine mg_cv (r176_0 d) (by omega) ?_
        repeat (first | refine ⟨_, mg_Fs rfl rfl, ?_⟩ | refine ⟨_, mg_Fd rfl rfl, ?_⟩ | refine ⟨Or.inl rfl, ?_⟩ | refine ⟨Or.inr ⟨_, rfl⟩, ?_⟩ | refine ⟨fun _ => ?_, fun h => absurd h (by decide)⟩ | refine ⟨fun h => absurd h (by decide), fun _ => ?_⟩)
        refine ⟨rfl, _, rfl, rfl, ?_⟩
        have hX0 : rX (mg_sF G 148 10 (.int 0)) (mg_sF (mg_sF G 148 10 (.int 0)) 148 28 (.int (Int32.ofInt 0))) := (rX.rf _).s _ (by decide)
        repeat (first | refine ⟨_, mg_Fs rfl rfl, ?_⟩ | refine ⟨_, mg_Fd rfl rfl, ?_⟩ | refine ⟨Or.inl rfl, ?_⟩ | refine ⟨Or.inr ⟨_, rfl⟩, ?_⟩ | refine ⟨fun _ => ?_, fun h => absurd h (by decide)⟩ | refine ⟨fun h => absurd h (by decide), fun _ => ?_⟩)
        refine mg_m_mono (r224 (d + 3) (hX0.I hI3) hif (rK_0 _) (show 0 < 400 by decide)) (by omega) ?_
        rintro o q G1 ⟨rfl, rfl, hY1, hK1⟩
        have hX1 := hX0.tr hY1
        repeat (first | refine ⟨_, mg_Fs rfl rfl, ?_⟩ | refine ⟨_, mg_Fd rfl rfl, ?_⟩ | refine ⟨Or.inl rfl, ?_⟩ | refine ⟨Or.inr ⟨_, rfl⟩, ?_⟩ | refine ⟨fun _ => ?_, fun h => absurd h (by decide)⟩ | refine ⟨fun h => absurd h (by decide), fun _ => ?_⟩)
        refine mg_m_mono (r230 d jv (hX1.I hI3).1 (by omega) b (ts := []) hK1 (by decide)) (by omega) ?_
        rintro o q G5 ⟨rfl, rfl, hX5, hK5⟩
        repeat (first | refine ⟨_, mg_Fs rfl rfl, ?_⟩ | refine ⟨_, mg_Fd rfl rfl, ?_⟩ | refine ⟨Or.inl rfl, ?_⟩ | refine ⟨Or.inr ⟨_, rfl⟩, ?_⟩ | refine ⟨fun _ => ?_, fun h => absurd h (by decide)⟩ | refine ⟨fun h => absurd h (by decide), fun _ => ?_⟩)
        refine mg_m_mono (rAdd d hT (hX1.tr hX5) (rK_row hK5) (by omega) (a_per_op _ (a_pw_per (hper _ hif) (by omega) false) (a_pw_per (hper _ hif) (by omega) true))) (by omega) ?_
        rintro o q G3 ⟨rfl, rfl, h1⟩
        exact ⟨Or.inl rfl, rfl, rfl, h1⟩
theorem r310 (d : Nat) (hT : rT G S) (f v : Int32) (b : Bool) : mg_m (mg_KM scr t) (d + 7) 310 [.ref 148, .int f, .int v, .int (if b then 1 else 0)] G (rAp G (p310 S f v b)) := by
  have hI := hT.I
  have h8 := hI.v8
  have h12 := hI.f12
  have hper := hI.W.2.2.2.1
  have hI3 : rI (mg_sF G 148 10 (.int 0)) (sA S) := hI
  unfold p310 rAp
  cases hf : vi f (aF (sA S)) with
  | none =>
    rw [pF_x hf]
    refine mg_me [38] 150 my_310 ms_310 (Nat.le_of_ble_eq_true rfl) ?_
    repeat (first | refine ⟨_, mg_Fs rfl rfl, ?_⟩ | refine ⟨_, mg_Fd rfl rfl, ?_⟩ | refine ⟨Or.inl rfl, ?_⟩ | refine ⟨Or.inr ⟨_, rfl⟩, ?_⟩ | refine ⟨fun _ => ?_, fun h => absurd h (by decide)⟩ | refine ⟨fun h => absurd h (by decide), fun _ => ?_⟩)
    refine mg_cv (r181x d hI hf) (by omega) ?_
    repeat (first | refine ⟨_, mg_Fs rfl rfl, ?_⟩ | refine ⟨_, mg_Fd rfl rfl, ?_⟩ | refine ⟨Or.inl rfl, ?_⟩ | refine ⟨Or.inr ⟨_, rfl⟩, ?_⟩ | refine ⟨fun _ => ?_, fun h => absurd h (by decide)⟩ | refine ⟨fun h => absurd h (by decide), fun _ => ?_⟩)
    refine mg_cv (r306 d hI) (by omega) ?_
    repeat (first | refine ⟨_, mg_Fs rfl rfl, ?_⟩ | refine ⟨_, mg_Fd rfl rfl, ?_⟩ | refine ⟨Or.inl rfl, ?_⟩ | refine ⟨Or.inr ⟨_, rfl⟩, ?_⟩ | refine ⟨fun _ => ?_, fun h => absurd h (by decide)⟩ | refine ⟨fun h => absurd h (by decide), fun _ => ?_⟩)
    refine mg_cv (r176_1 d _ _) (by omega) ?_
    repeat (first | refine ⟨_, mg_Fs rfl rfl, ?_⟩ | refine ⟨_, mg_Fd rfl rfl, ?_⟩ | refine ⟨Or.inl rfl, ?_⟩ | refine ⟨Or.inr ⟨_, rfl⟩, ?_⟩ | refine ⟨fun _ => ?_, fun h => absurd h (by decide)⟩ | refine ⟨fun h => absurd h (by decide), fun _ => ?_⟩)
    exact rA_x hT rfl
  | some jf =>
    obtain ⟨rfl, hif⟩ := vi_s hf
    rw [pF_y hf]
    cases hv : vi v (aV (sA S)) with
    | none =>
      rw [pV_x hv]
      refine mg_me [38] 150 my_310 ms_310 (Nat.le_of_ble_eq_true rfl) ?_
      repeat (first | refine ⟨_, mg_Fs rfl rfl, ?_⟩ | refine ⟨_, mg_Fd rfl rfl, ?_⟩ | refine ⟨Or.inl rfl, ?_⟩ | refine ⟨Or.inr ⟨_, rfl⟩, ?_⟩ | refine ⟨fun _ => ?_, fun h => absurd h (by decide)⟩ | refine ⟨fun h => absurd h (by decide), fun _ => ?_⟩)
      refine mg_cv (r181y d hI hf) (by omega) ?_
      repeat (first | refine ⟨_, mg_Fs rfl rfl, ?_⟩ | refine ⟨_, mg_Fd rfl rfl, ?_⟩ | refine ⟨Or.inl rfl, ?_⟩ | refine ⟨Or.inr ⟨_, rfl⟩, ?_⟩ | refine ⟨fun _ => ?_, fun h => absurd h (by decide)⟩ | refine ⟨fun h => absurd h (by decide), fun _ => ?_⟩)
      refine mg_cv (r180x d hI hv) (by omega) ?_
      repeat (first | refine ⟨_, mg_Fs rfl rfl, ?_⟩ | refine ⟨_, mg_Fd rfl rfl, ?_⟩ | refine ⟨Or.inl rfl, ?_⟩ | refine ⟨Or.inr ⟨_, rfl⟩, ?_⟩ | refine ⟨fun _ => ?_, fun h => absurd h (by decide)⟩ | refine ⟨fun h => absurd h (by decide), fun _ => ?_⟩)
      refine mg_cv (r306 d hI) (by omega) ?_
      repeat (first | refine ⟨_, mg_Fs rfl rfl, ?_⟩ | refine ⟨_, mg_Fd rfl rfl, ?_⟩ | refine ⟨Or.inl rfl, ?_⟩ | refine ⟨Or.inr ⟨_, rfl⟩, ?_⟩ | refine ⟨fun _ => ?_, fun h => absurd h (by decide)⟩ | refine ⟨fun h => absurd h (by decide), fun _ => ?_⟩)
      refine mg_cv (r176_1 d _ _) (by omega) ?_
      repeat (first | refine ⟨_, mg_Fs rfl rfl, ?_⟩ | refine ⟨_, mg_Fd rfl rfl, ?_⟩ | refine ⟨Or.inl rfl, ?_⟩ | refine ⟨Or.inr ⟨_, rfl⟩, ?_⟩ | refine ⟨fun _ => ?_, fun h => absurd h (by decide)⟩ | refine ⟨fun h => absurd h (by decide), fun _ => ?_⟩)
      exact rA_x hT rfl
    | some jv =>
      obtain ⟨rfl, hiv⟩ := vi_s hv
      rw [pV_y hv]
      unfold pNew
      by_cases h11 : aF (sA S) = 12
      · rw [if_pos h11]
        have h306 := r306 (scr := scr) (t := t) d hI
        rw [if_pos h11] at h306
        refine mg_me [38] 150 my_310 ms_310 (Nat.le_of_ble_eq_true rfl) ?_
        repeat (first | refine ⟨_, mg_Fs rfl rfl, ?_⟩ | refine ⟨_, mg_Fd rfl rfl, ?_⟩ | refine ⟨Or.inl rfl, ?_⟩ | refine ⟨Or.inr ⟨_, rfl⟩, ?_⟩ | refine ⟨fun _ => ?_, fun h => absurd h (by decide)⟩ | refine ⟨fun h => absurd h (by decide), fun _ => ?_⟩)
        refine mg_cv (r181y d hI hf) (by omega) ?_
        repeat (first | refine ⟨_, mg_Fs rfl rfl, ?_⟩ | refine ⟨_, mg_Fd rfl rfl, ?_⟩ | refine ⟨Or.inl rfl, ?_⟩ | refine ⟨Or.inr ⟨_, rfl⟩, ?_⟩ | refine ⟨fun _ => ?_, fun h => absurd h (by decide)⟩ | refine ⟨fun h => absurd h (by decide), fun _ => ?_⟩)
        refine mg_cv (r180y d hI hv) (by omega) ?_
        repeat (first | refine ⟨_, mg_Fs rfl rfl, ?_⟩ | refine ⟨_, mg_Fd rfl rfl, ?_⟩ | refine ⟨Or.inl rfl, ?_⟩ | refine ⟨Or.inr ⟨_, rfl⟩, ?_⟩ | refine ⟨fun _ => ?_, fun h => absurd h (by decide)⟩ | refine ⟨fun h => absurd h (by decide), fun _ => ?_⟩)
        refine mg_cv (h306) (by omega) ?_
        repeat (first | refine ⟨_, mg_Fs rfl rfl, ?_⟩ | refine ⟨_, mg_Fd rfl rfl, ?_⟩ | refine ⟨Or.inl rfl, ?_⟩ | refine ⟨Or.inr ⟨_, rfl⟩, ?_⟩ | refine ⟨fun _ => ?_, fun h => absurd h (by decide)⟩ | refine ⟨fun h => absurd h (by decide), fun _ => ?_⟩)
        refine mg_cv (r176_2 d _) (by omega) ?_
        repeat (first | refine ⟨_, mg_Fs rfl rfl, ?_⟩ | refine ⟨_, mg_Fd rfl rfl, ?_⟩ | refine ⟨Or.inl rfl, ?_⟩ | refine ⟨Or.inr ⟨_, rfl⟩, ?_⟩ | refine ⟨fun _ => ?_, fun h => absurd h (by decide)⟩ | refine ⟨fun h => absurd h (by decide), fun _ => ?_⟩)
        exact rA_x hT rfl
      · rw [if_neg h11]
        have h306 := r306 (scr := scr) (t := t) d hI
        rw [if_neg h11] at h306
        refine mg_me [38] 150 my_310 ms_310 (Nat.le_of_ble_eq_true rfl) ?_
        repeat (first | refine ⟨_, mg_Fs rfl rfl, ?_⟩ | refine ⟨_, mg_Fd rfl rfl, ?_⟩ | refine ⟨Or.inl rfl, ?_⟩ | refine ⟨Or.inr ⟨_, rfl⟩, ?_⟩ | refine ⟨fun _ => ?_, fun h => absurd h (by decide)⟩ | refine ⟨fun h => absurd h (by decide), fun _ => ?_⟩)
        refine mg_cv (r181y d hI hf) (by omega) ?_
        repeat (first | refine ⟨_, mg_Fs rfl rfl, ?_⟩ | refine ⟨_, mg_Fd rfl rfl, ?_⟩ | refine ⟨Or.inl rfl, ?_⟩ | refine ⟨Or.inr ⟨_, rfl⟩, ?_⟩ | refine ⟨fun _ => ?_, fun h => absurd h (by decide)⟩ | refine ⟨fun h => absurd h (by decide), fun _ => ?_⟩)
        refine mg_cv (r180y d hI hv) (by omega) ?_
        repeat (first | refine ⟨_, mg_Fs rfl rfl, ?_⟩ | refine ⟨_, mg_Fd rfl rfl, ?_⟩ | refine ⟨Or.inl rfl, ?_⟩ | refine ⟨Or.inr ⟨_, rfl⟩, ?_⟩ | refine ⟨fun _ => ?_, fun h => absurd h (by decide)⟩ | refine ⟨fun h => absurd h (by decide), fun _ => ?_⟩)
        refine mg_cv (h306) (by omega) ?_
        repeat (first | refine ⟨_, mg_Fs rfl rfl, ?_⟩ | refine ⟨_, mg_Fd rfl rfl, ?_⟩ | refine ⟨Or.inl rfl, ?_⟩ | refine ⟨Or.inr ⟨_, rfl⟩, ?_⟩ | refine ⟨fun _ => ?_, fun h => absurd h (by decide)⟩ | refine ⟨fun h => absurd h (by decide), fun _ => ?_⟩)
        refine mg_cv (r176_0 d) (by omega) ?_
        repeat (first | refine ⟨_, mg_Fs rfl rfl, ?_⟩ | refine ⟨_, mg_Fd rfl rfl, ?_⟩ | refine ⟨Or.inl rfl, ?_⟩ | refine ⟨Or.inr ⟨_, rfl⟩, ?_⟩ | refine ⟨fun _ => ?_, fun h => absurd h (by decide)⟩ | refine ⟨fun h => absurd h (by decide), fun _ => ?_⟩)
        refine mg_loop 4 (fun k L G' => L = [some (.ref 148), some (.int (Int32.ofNat jf)), some (.int (Int32.ofNat jv)), some (.int (if b then 1 else 0)), some (.int (Int32.ofNat k))] ∧ G' = cW (mg_sF G 148 10 (.int 0)) 164 0 k (a_wd (a_cf (aT (sA S) jf) jv b))) ?_ ?_ _ _ ⟨rfl, (cW_0 _ _ _ _).symm⟩
        · rintro k L G' hk ⟨rfl, rfl⟩ ih
          have hv0 : (0 : Int32) ≤ Int32.ofNat jv := (mg_leN (a := 0) (by decide) (by omega)).mpr (Nat.zero_le _)
          have lf : mg_m (mg_KM scr t) (d + 3) 190 [.ref 148, .int (Int32.ofNat jf), .int (Int32.ofNat jv), .int (if b then 1 else 0), .int (Int32.ofNat k)] (cW (mg_sF G 148 10 (.int 0)) 164 0 k (a_wd (a_cf (aT (sA S) jf) jv b))) (mg_v (.long (a_wd (a_cf (aT (sA S) jf) jv b) k)) (cW (mg_sF G 148 10 (.int 0)) 164 0 k (a_wd (a_cf (aT (sA S) jf) jv b)))) := by
            have := r190 (scr := scr) (t := t) d jf (by omega) (Int32.ofNat jv) (if b then 1 else 0) (Int32.ofNat k) hv0 (cW (mg_sF G 148 10 (.int 0)) 164 0 k (a_wd (a_cf (aT (sA S) jf) jv b)))
            rw [cW_ne _ _ _ _ _ _ (show (154 : Nat) ≠ 164 by decide), a_left_m hI.1 _ _ (by omega), show a_tb (cW (mg_sF G 148 10 (.int 0)) 164 0 k (a_wd (a_cf (aT (sA S) jf) jv b))) jf = aT (sA S) jf from (by unfold a_tb; rw [cW_ne _ _ _ _ _ _ (show (150 : Nat) ≠ 164 by decide)]; exact hI.t hif)] at this
            rw [a_wd_cf _ _ _ _ hk]
            exact this
          refine mg_go [38] 90 38 ms_310 ?_
          refine ⟨fun h => absurd h (mg_nle (b := 4) hk (by decide)), fun _ => ⟨_, mg_Fs rfl rfl, ?_⟩⟩
          cases b with
          | true =>
            refine ⟨fun h => absurd h (by decide), fun _ => ?_⟩
            repeat (first | refine ⟨_, mg_Fs rfl rfl, ?_⟩ | refine ⟨_, mg_Fd rfl rfl, ?_⟩ | refine ⟨Or.inl rfl, ?_⟩ | refine ⟨Or.inr ⟨_, rfl⟩, ?_⟩ | refine ⟨fun _ => ?_, fun h => absurd h (by decide)⟩ | refine ⟨fun h => absurd h (by decide), fun _ => ?_⟩)
            refine mg_cv (lf) (by omega) ?_
            exact ⟨1600, 4 * 0 + k, rfl, mg_ixE (by rw [Nat.mul_zero, Nat.zero_add]) (by omega), by omega, ih _ _ ⟨by rw [← mg_inc k] <;> rfl, cW_s _ _ _ _ _⟩⟩
          | false =>
            refine ⟨fun _ => ?_, fun h => absurd rfl h⟩
            repeat (first | refine ⟨_, mg_Fs rfl rfl, ?_⟩ | refine ⟨_, mg_Fd rfl rfl, ?_⟩ | refine ⟨Or.inl rfl, ?_⟩ | refine ⟨Or.inr ⟨_, rfl⟩, ?_⟩ | refine ⟨fun _ => ?_, fun h => absurd h (by decide)⟩ | refine ⟨fun h => absurd h (by decide), fun _ => ?_⟩)
            refine mg_cv (lf) (by omega) ?_
            exact ⟨1600, 4 * 0 + k, rfl, mg_ixE (by rw [Nat.mul_zero, Nat.zero_add]) (by omega), by omega, ih _ _ ⟨by rw [← mg_inc k] <;> rfl, cW_s _ _ _ _ _⟩⟩
        · rintro L G' ⟨rfl, rfl⟩
          refine mg_go [38] 60 38 ms_310 ?_
          refine ⟨fun _ => ?_, fun h => absurd h (by decide)⟩
          repeat (first | refine ⟨_, mg_Fs rfl rfl, ?_⟩ | refine ⟨_, mg_Fd rfl rfl, ?_⟩ | refine ⟨Or.inl rfl, ?_⟩ | refine ⟨Or.inr ⟨_, rfl⟩, ?_⟩ | refine ⟨fun _ => ?_, fun h => absurd h (by decide)⟩ | refine ⟨fun h => absurd h (by decide), fun _ => ?_⟩)
          refine mg_m_mono (rAdd d hT ((rX.rf _).cW 0 4 _) (T := a_cf (aT (sA S) jf) jv b) (fun w hw => cW_in _ _ _ _ _ _ hw) (by omega) (a_pw_per (hper _ hif) (by omega) b)) (by omega) ?_
          rintro o q G3 ⟨rfl, rfl, h1⟩
          exact ⟨Or.inl rfl, rfl, rfl, h1⟩
theorem r312 (d : Nat) (hT : rT G S) (f v g : Int32) : mg_m (mg_KM scr t) (d + 7) 312 [.ref 148, .int f, .int v, .int g] G (rAp G (p312 S f v g)) := by
  have hI := hT.I
  have h8 := hI.v8
  have h12 := hI.f12
  have hper := hI.W.2.2.2.1
  have hI3 : rI (mg_sF G 148 10 (.int 0)) (sA S) := hI
  unfold p312 rAp
  cases hf : vi f (aF (sA S)) with
  | none =>
    rw [pF_x hf]
    refine mg_me [46] 150 my_312 ms_312 (Nat.le_of_ble_eq_true rfl) ?_
    repeat (first | refine ⟨_, mg_Fs rfl rfl, ?_⟩ | refine ⟨_, mg_Fd rfl rfl, ?_⟩ | refine ⟨Or.inl rfl, ?_⟩ | refine ⟨Or.inr ⟨_, rfl⟩, ?_⟩ | refine ⟨fun _ => ?_, fun h => absurd h (by decide)⟩ | refine ⟨fun h => absurd h (by decide), fun _ => ?_⟩)
    refine mg_cv (r181x d hI hf) (by omega) ?_
    repeat (first | refine ⟨_, mg_Fs rfl rfl, ?_⟩ | refine ⟨_, mg_Fd rfl rfl, ?_⟩ | refine ⟨Or.inl rfl, ?_⟩ | refine ⟨Or.inr ⟨_, rfl⟩, ?_⟩ | refine ⟨fun _ => ?_, fun h => absurd h (by decide)⟩ | refine ⟨fun h => absurd h (by decide), fun _ => ?_⟩)
    refine mg_cv (r306 d hI) (by omega) ?_
    repeat (first | refine ⟨_, mg_Fs rfl rfl, ?_⟩ | refine ⟨_, mg_Fd rfl rfl, ?_⟩ | refine ⟨Or.inl rfl, ?_⟩ | refine ⟨Or.inr ⟨_, rfl⟩, ?_⟩ | refine ⟨fun _ => ?_, fun h => absurd h (by decide)⟩ | refine ⟨fun h => absurd h (by decide), fun _ => ?_⟩)
    refine mg_cv (r176_1 d _ _) (by omega) ?_
    repeat (first | refine ⟨_, mg_Fs rfl rfl, ?_⟩ | refine ⟨_, mg_Fd rfl rfl, ?_⟩ | refine ⟨Or.inl rfl, ?_⟩ | refine ⟨Or.inr ⟨_, rfl⟩, ?_⟩ | refine ⟨fun _ => ?_, fun h => absurd h (by decide)⟩ | refine ⟨fun h => absurd h (by decide), fun _ => ?_⟩)
    exact rA_x hT rfl
  | some jf =>
    obtain ⟨rfl, hif⟩ := vi_s hf
    rw [pF_y hf]
    cases hv : vi v (aV (sA S)) with
    | none =>
      rw [pV_x hv]
      refine mg_me [46] 150 my_312 ms_312 (Nat.le_of_ble_eq_true rfl) ?_
      repeat (first | refine ⟨_, mg_Fs rfl rfl, ?_⟩ | refine ⟨_, mg_Fd rfl rfl, ?_⟩ | refine ⟨Or.inl rfl, ?_⟩ | refine ⟨Or.inr ⟨_, rfl⟩, ?_⟩ | refine ⟨fun _ => ?_, fun h => absurd h (by decide)⟩ | refine ⟨fun h => absurd h (by decide), fun _ => ?_⟩)
      refine mg_cv (r181y d hI hf) (by omega) ?_
      repeat (first | refine ⟨_, mg_Fs rfl rfl, ?_⟩ | refine ⟨_, mg_Fd rfl rfl, ?_⟩ | refine ⟨Or.inl rfl, ?_⟩ | refine ⟨Or.inr ⟨_, rfl⟩, ?_⟩ | refine ⟨fun _ => ?_, fun h => absurd h (by decide)⟩ | refine ⟨fun h => absurd h (by decide), fun _ => ?_⟩)
      refine mg_cv (r180x d hI hv) (by omega) ?_
      repeat (first | refine ⟨_, mg_Fs rfl rfl, ?_⟩ | refine ⟨_, mg_Fd rfl rfl, ?_⟩ | refine ⟨Or.inl rfl, ?_⟩ | refine ⟨Or.inr ⟨_, rfl⟩, ?_⟩ | refine ⟨fun _ => ?_, fun h => absurd h (by decide)⟩ | refine ⟨fun h => absurd h (by decide), fun _ => ?_⟩)
      refine mg_cv (r306 d hI) (by omega) ?_
      repeat (first | refine ⟨_, mg_Fs rfl rfl, ?_⟩ | refine ⟨_, mg_Fd rfl rfl, ?_⟩ | refine ⟨Or.inl rfl, ?_⟩ | refine ⟨Or.inr ⟨_, rfl⟩, ?_⟩ | refine ⟨fun _ => ?_, fun h => absurd h (by decide)⟩ | refine ⟨fun h => absurd h (by decide), fun _ => ?_⟩)
      refine mg_cv (r176_1 d _ _) (by omega) ?_
      repeat (first | refine ⟨_, mg_Fs rfl rfl, ?_⟩ | refine ⟨_, mg_Fd rfl rfl, ?_⟩ | refine ⟨Or.inl rfl, ?_⟩ | refine ⟨Or.inr ⟨_, rfl⟩, ?_⟩ | refine ⟨fun _ => ?_, fun h => absurd h (by decide)⟩ | refine ⟨fun h => absurd h (by decide), fun _ => ?_⟩)
      exact rA_x hT rfl
    | some jv =>
      obtain ⟨rfl, hiv⟩ := vi_s hv
      rw [pV_y hv]
      cases hg : vi g (aF (sA S)) with
      | none =>
        rw [pF_x hg]
        refine mg_me [46] 150 my_312 ms_312 (Nat.le_of_ble_eq_true rfl) ?_
        repeat (first | refine ⟨_, mg_Fs rfl rfl, ?_⟩ | refine ⟨_, mg_Fd rfl rfl, ?_⟩ | refine ⟨Or.inl rfl, ?_⟩ | refine ⟨Or.inr ⟨_, rfl⟩, ?_⟩ | refine ⟨fun _ => ?_, fun h => absurd h (by decide)⟩ | refine ⟨fun h => absurd h (by decide), fun _ => ?_⟩)
        refine mg_cv (r181y d hI hf) (by omega) ?_
        repeat (first | refine ⟨_, mg_Fs rfl rfl, ?_⟩ | refine ⟨_, mg_Fd rfl rfl, ?_⟩ | refine ⟨Or.inl rfl, ?_⟩ | refine ⟨Or.inr ⟨_, rfl⟩, ?_⟩ | refine ⟨fun _ => ?_, fun h => absurd h (by decide)⟩ | refine ⟨fun h => absurd h (by decide), fun _ => ?_⟩)
        refine mg_cv (r180y d hI hv) (by omega) ?_
        repeat (first | refine ⟨_, mg_Fs rfl rfl, ?_⟩ | refine ⟨_, mg_Fd rfl rfl, ?_⟩ | refine ⟨Or.inl rfl, ?_⟩ | refine ⟨Or.inr ⟨_, rfl⟩, ?_⟩ | refine ⟨fun _ => ?_, fun h => absurd h (by decide)⟩ | refine ⟨fun h => absurd h (by decide), fun _ => ?_⟩)
        refine mg_cv (r181x d hI hg) (by omega) ?_
        repeat (first | refine ⟨_, mg_Fs rfl rfl, ?_⟩ | refine ⟨_, mg_Fd rfl rfl, ?_⟩ | refine ⟨Or.inl rfl, ?_⟩ | refine ⟨Or.inr ⟨_, rfl⟩, ?_⟩ | refine ⟨fun _ => ?_, fun h => absurd h (by decide)⟩ | refine ⟨fun h => absurd h (by decide), fun _ => ?_⟩)
        refine mg_cv (r306 d hI) (by omega) ?_
        repeat (first | refine ⟨_, mg_Fs rfl rfl, ?_⟩ | refine ⟨_, mg_Fd rfl rfl, ?_⟩ | refine ⟨Or.inl rfl, ?_⟩ | refine ⟨Or.inr ⟨_, rfl⟩, ?_⟩ | refine ⟨fun _ => ?_, fun h => absurd h (by decide)⟩ | refine ⟨fun h => absurd h (by decide), fun _ => ?_⟩)
        refine mg_cv (r176_1 d _ _) (by omega) ?_
        repeat (first | refine ⟨_, mg_Fs rfl rfl, ?_⟩ | refine ⟨_, mg_Fd rfl rfl, ?_⟩ | refine ⟨Or.inl rfl, ?_⟩ | refine ⟨Or.inr ⟨_, rfl⟩, ?_⟩ | refine ⟨fun _ => ?_, fun h => absurd h (by decide)⟩ | refine ⟨fun h => absurd h (by decide), fun _ => ?_⟩)
        exact rA_x hT rfl
      | some jg =>
        obtain ⟨rfl, hig⟩ := vi_s hg
        rw [pF_y hg]
        unfold pNew
        by_cases h11 : aF (sA S) = 12
        · rw [if_pos h11]
          have h306 := r306 (scr := scr) (t := t) d hI
          rw [if_pos h11] at h306
          refine mg_me [46] 150 my_312 ms_312 (Nat.le_of_ble_eq_true rfl) ?_
          repeat (first | refine ⟨_, mg_Fs rfl rfl, ?_⟩ | refine ⟨_, mg_Fd rfl rfl, ?_⟩ | refine ⟨Or.inl rfl, ?_⟩ | refine ⟨Or.inr ⟨_, rfl⟩, ?_⟩ | refine ⟨fun _ => ?_, fun h => absurd h (by decide)⟩ | refine ⟨fun h => absurd h (by decide), fun _ => ?_⟩)
          refine mg_cv (r181y d hI hf) (by omega) ?_
          repeat (first | refine ⟨_, mg_Fs rfl rfl, ?_⟩ | refine ⟨_, mg_Fd rfl rfl, ?_⟩ | refine ⟨Or.inl rfl, ?_⟩ | refine ⟨Or.inr ⟨_, rfl⟩, ?_⟩ | refine ⟨fun _ => ?_, fun h => absurd h (by decide)⟩ | refine ⟨fun h => absurd h (by decide), fun _ => ?_⟩)
          refine mg_cv (r180y d hI hv) (by omega) ?_
          repeat (first | refine ⟨_, mg_Fs rfl rfl, ?_⟩ | refine ⟨_, mg_Fd rfl rfl, ?_⟩ | refine ⟨Or.inl rfl, ?_⟩ | refine ⟨Or.inr ⟨_, rfl⟩, ?_⟩ | refine ⟨fun _ => ?_, fun h => absurd h (by decide)⟩ | refine ⟨fun h => absurd h (by decide), fun _ => ?_⟩)
          refine mg_cv (r181y d hI hg) (by omega) ?_
          repeat (first | refine ⟨_, mg_Fs rfl rfl, ?_⟩ | refine ⟨_, mg_Fd rfl rfl, ?_⟩ | refine ⟨Or.inl rfl, ?_⟩ | refine ⟨Or.inr ⟨_, rfl⟩, ?_⟩ | refine ⟨fun _ => ?_, fun h => absurd h (by decide)⟩ | refine ⟨fun h => absurd h (by decide), fun _ => ?_⟩)
          refine mg_cv (h306) (by omega) ?_
          repeat (first | refine ⟨_, mg_Fs rfl rfl, ?_⟩ | refine ⟨_, mg_Fd rfl rfl, ?_⟩ | refine ⟨Or.inl rfl, ?_⟩ | refine ⟨Or.inr ⟨_, rfl⟩, ?_⟩ | refine ⟨fun _ => ?_, fun h => absurd h (by decide)⟩ | refine ⟨fun h => absurd h (by decide), fun _ => ?_⟩)
          refine mg_cv (r176_2 d _) (by omega) ?_
          repeat (first | refine ⟨_, mg_Fs rfl rfl, ?_⟩ | refine ⟨_, mg_Fd rfl rfl, ?_⟩ | refine ⟨Or.inl rfl, ?_⟩ | refine ⟨Or.inr ⟨_, rfl⟩, ?_⟩ | refine ⟨fun _ => ?_, fun h => absurd h (by decide)⟩ | refine ⟨fun h => absurd h (by decide), fun _ => ?_⟩)
          exact rA_x hT rfl
        · rw [if_neg h11]
          have h306 := r306 (scr := scr) (t := t) d hI
          rw [if_neg h11] at h306
          refine mg_me [46] 150 my_312 ms_312 (Nat.le_of_ble_eq_true rfl) ?_
          repeat (first | refine ⟨_, mg_Fs rfl rfl, ?_⟩ | refine ⟨_, mg_Fd rfl rfl, ?_⟩ | refine ⟨Or.inl rfl, ?_⟩ | refine ⟨Or.inr ⟨_, rfl⟩, ?_⟩ | refine ⟨fun _ => ?_, fun h => absurd h (by decide)⟩ | refine ⟨fun h => absurd h (by decide), fun _ => ?_⟩)
          refine mg_cv (r181y d hI hf) (by omega) ?_
          repeat (first | refine ⟨_, mg_Fs rfl rfl, ?_⟩ | refine ⟨_, mg_Fd rfl rfl, ?_⟩ | refine ⟨Or.inl rfl, ?_⟩ | refine ⟨Or.inr ⟨_, rfl⟩, ?_⟩ | refine ⟨fun _ => ?_, fun h => absurd h (by decide)⟩ | refine ⟨fun h => absurd h (by decide), fun _ => ?_⟩)
          refine mg_cv (r180y d hI hv) (by omega) ?_
          repeat (first | refine ⟨_, mg_Fs rfl rfl, ?_⟩ | refine ⟨_, mg_Fd rfl rfl, ?_⟩ | refine ⟨Or.inl rfl, ?_⟩ | refine ⟨Or.inr ⟨_, rfl⟩, ?_⟩ | refine ⟨fun _ => ?_, fun h => absurd h (by decide)⟩ | refine ⟨fun h => absurd h (by decide), fun _ => ?_⟩)
          refine mg_cv (r181y d hI hg) (by omega) ?_
          repeat (first | refine ⟨_, mg_Fs rfl rfl, ?_⟩ | refine ⟨_, mg_Fd rfl rfl, ?_⟩ | refine ⟨Or.inl rfl, ?_⟩ | refine ⟨Or.inr ⟨_, rfl⟩, ?_⟩ | refine ⟨fun _ => ?_, fun h => absurd h (by decide)⟩ | refine ⟨fun h => absurd h (by decide), fun _ => ?_⟩)
          refine mg_cv (h306) (by omega) ?_
          repeat (first | refine ⟨_, mg_Fs rfl rfl, ?_⟩ | refine ⟨_, mg_Fd rfl rfl, ?_⟩ | refine ⟨Or.inl rfl, ?_⟩ | refine ⟨Or.inr ⟨_, rfl⟩, ?_⟩ | refine ⟨fun _ => ?_, fun h => absurd h (by decide)⟩ | refine ⟨fun h => absurd h (by decide), fun _ => ?_⟩)
          refine mg_cv (r176_0 d) (by omega) ?_
          repeat (first | refine ⟨_, mg_Fs rfl rfl, ?_⟩ | refine ⟨_, mg_Fd rfl rfl, ?_⟩ | refine ⟨Or.inl rfl, ?_⟩ | refine ⟨Or.inr ⟨_, rfl⟩, ?_⟩ | refine ⟨fun _ => ?_, fun h => absurd h (by decide)⟩ | refine ⟨fun h => absurd h (by decide), fun _ => ?_⟩)
          refine mg_loop 4 (fun k L G' => L = [some (.ref 148), some (.int (Int32.ofNat jf)), some (.int (Int32.ofNat jv)), some (.int (Int32.ofNat jg)), some (.int (Int32.ofNat k))] ∧ G' = cW (mg_sF G 148 10 (.int 0)) 164 0 k (a_wd (a_sel (aT (sA S) jg) (a_cf (aT (sA S) jf) jv true) (a_cf (aT (sA S) jf) jv false)))) ?_ ?_ _ _ ⟨rfl, (cW_0 _ _ _ _).symm⟩
          · rintro k L G' hk ⟨rfl, rfl⟩ ih
            have hv0 : (0 : Int32) ≤ Int32.ofNat jv := (mg_leN (a := 0) (by decide) (by omega)).mpr (Nat.zero_le _)
            have lf : ∀ b : Bool, mg_m (mg_KM scr t) (d + 3) 190 [.ref 148, .int (Int32.ofNat jf), .int (Int32.ofNat jv), .int (if b then 1 else 0), .int (Int32.ofNat k)] (cW (mg_sF G 148 10 (.int 0)) 164 0 k (a_wd (a_sel (aT (sA S) jg) (a_cf (aT (sA S) jf) jv true) (a_cf (aT (sA S) jf) jv false)))) (mg_v (.long (a_wd (a_cf (aT (sA S) jf) jv b) k)) (cW (mg_sF G 148 10 (.int 0)) 164 0 k (a_wd (a_sel (aT (sA S) jg) (a_cf (aT (sA S) jf) jv true) (a_cf (aT (sA S) jf) jv false))))) := fun b => by
              have := r190 (scr := scr) (t := t) d jf (by omega) (Int32.ofNat jv) (if b then 1 else 0) (Int32.ofNat k) hv0 (cW (mg_sF G 148 10 (.int 0)) 164 0 k (a_wd (a_sel (aT (sA S) jg) (a_cf (aT (sA S) jf) jv true) (a_cf (aT (sA S) jf) jv false))))
              rw [cW_ne _ _ _ _ _ _ (show (154 : Nat) ≠ 164 by decide), a_left_m hI.1 _ _ (by omega), show a_tb (cW (mg_sF G 148 10 (.int 0)) 164 0 k (a_wd (a_sel (aT (sA S) jg) (a_cf (aT (sA S) jf) jv true) (a_cf (aT (sA S) jf) jv false)))) jf = aT (sA S) jf from (by unfold a_tb; rw [cW_ne _ _ _ _ _ _ (show (150 : Nat) ≠ 164 by decide)]; exact hI.t hif)] at this
              rw [a_wd_cf _ _ _ _ hk]
              exact this
            have hw : mg_m (mg_KM scr t) (d + 1) 189 [.ref 148, .int (Int32.ofNat jg), .int (Int32.ofNat k)] (cW (mg_sF G 148 10 (.int 0)) 164 0 k (a_wd (a_sel (aT (sA S) jg) (a_cf (aT (sA S) jf) jv true) (a_cf (aT (sA S) jf) jv false)))) (mg_v (.long (a_wd (aT (sA S) jg) k)) (cW (mg_sF G 148 10 (.int 0)) 164 0 k (a_wd (a_sel (aT (sA S) jg) (a_cf (aT (sA S) jf) jv true) (a_cf (aT (sA S) jf) jv false))))) := by
              have := r189 (scr := scr) (t := t) d jg k (by omega) (cW (mg_sF G 148 10 (.int 0)) 164 0 k (a_wd (a_sel (aT (sA S) jg) (a_cf (aT (sA S) jf) jv true) (a_cf (aT (sA S) jf) jv false))))
              rw [show (cW (mg_sF G 148 10 (.int 0)) 164 0 k (a_wd (a_sel (aT (sA S) jg) (a_cf (aT (sA S) jf) jv true) (a_cf (aT (sA S) jf) jv false)))).2.1 150 (4 * jg + k) = a_wd (aT (sA S) jg) k from (by
                rw [cW_ne _ _ _ _ _ _ (show (150 : Nat) ≠ 164 by decide), ← hI.t hig]
                rcases (show k = 0 ∨ k = 1 ∨ k = 2 ∨ k = 3 by omega) with rfl | rfl | rfl | rfl <;> rfl)] at this
              exact this
            have hq : a_wd (a_sel (aT (sA S) jg) (a_cf (aT (sA S) jf) jv true) (a_cf (aT (sA S) jf) jv false)) k = (a_wd (aT (sA S) jg) k &&& a_wd (a_cf (aT (sA S) jf) jv true) k) ||| ((a_wd (aT (sA S) jg) k ^^^ (-1 : Int64)) &&& a_wd (a_cf (aT (sA S) jf) jv false) k) := a_wd4 _ k hk
            refine mg_go [46] 90 46 ms_312 ?_
            refine ⟨fun h => absurd h (mg_nle (b := 4) hk (by decide)), fun _ => ⟨_, mg_Fs rfl rfl, ?_⟩⟩
            repeat (first | refine ⟨_, mg_Fs rfl rfl, ?_⟩ | refine ⟨_, mg_Fd rfl rfl, ?_⟩ | refine ⟨Or.inl rfl, ?_⟩ | refine ⟨Or.inr ⟨_, rfl⟩, ?_⟩ | refine ⟨fun _ => ?_, fun h => absurd h (by decide)⟩ | refine ⟨fun h => absurd h (by decide), fun _ => ?_⟩)
            refine mg_cv (hw) (by omega) ?_
            repeat (first | refine ⟨_, mg_Fs rfl rfl, ?_⟩ | refine ⟨_, mg_Fd rfl rfl, ?_⟩ | refine ⟨Or.inl rfl, ?_⟩ | refine ⟨Or.inr ⟨_, rfl⟩, ?_⟩ | refine ⟨fun _ => ?_, fun h => absurd h (by decide)⟩ | refine ⟨fun h => absurd h (by decide), fun _ => ?_⟩)
            refine mg_cv (lf true) (by omega) ?_
            repeat (first | refine ⟨_, mg_Fs rfl rfl, ?_⟩ | refine ⟨_, mg_Fd rfl rfl, ?_⟩ | refine ⟨Or.inl rfl, ?_⟩ | refine ⟨Or.inr ⟨_, rfl⟩, ?_⟩ | refine ⟨fun _ => ?_, fun h => absurd h (by decide)⟩ | refine ⟨fun h => absurd h (by decide), fun _ => ?_⟩)
            refine mg_cv (hw) (by omega) ?_
            repeat (first | refine ⟨_, mg_Fs rfl rfl, ?_⟩ | refine ⟨_, mg_Fd rfl rfl, ?_⟩ | refine ⟨Or.inl rfl, ?_⟩ | refine ⟨Or.inr ⟨_, rfl⟩, ?_⟩ | refine ⟨fun _ => ?_, fun h => absurd h (by decide)⟩ | refine ⟨fun h => absurd h (by decide), fun _ => ?_⟩)
            refine mg_cv (lf false) (by omega) ?_
            refine ⟨1600, 4 * 0 + k, rfl, mg_ixE (by rw [Nat.mul_zero, Nat.zero_add]) (by omega), by omega, ih _ _ ⟨by rw [← mg_inc k] <;> rfl, ?_⟩⟩
            rw [← cW_s, hq] <;> rfl
          · rintro L G' ⟨rfl, rfl⟩
            refine mg_go [46] 60 46 ms_312 ?_
            refine ⟨fun _ => ?_, fun h => absurd h (by decide)⟩
            repeat (first | refine ⟨_, mg_Fs rfl rfl, ?_⟩ | refine ⟨_, mg_Fd rfl rfl, ?_⟩ | refine ⟨Or.inl rfl, ?_⟩ | refine ⟨Or.inr ⟨_, rfl⟩, ?_⟩ | refine ⟨fun _ => ?_, fun h => absurd h (by decide)⟩ | refine ⟨fun h => absurd h (by decide), fun _ => ?_⟩)
            refine mg_m_mono (rAdd d hT ((rX.rf _).cW 0 4 _) (T := a_sel (aT (sA S) jg) (a_cf (aT (sA S) jf) jv true) (a_cf (aT (sA S) jf) jv false)) (fun w hw => cW_in _ _ _ _ _ _ hw) (by omega) (a_per_sel (hper _ hig) (a_pw_per (hper _ hif) (by omega) true) (a_pw_per (hper _ hif) (by omega) false))) (by omega) ?_
            rintro o q G3 ⟨rfl, rfl, h1⟩
            exact ⟨Or.inl rfl, rfl, rfl, h1⟩
end RM
