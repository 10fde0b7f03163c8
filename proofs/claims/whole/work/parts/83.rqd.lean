/-! REFERENCE: counts, variables, functions, nodes -/
def a_ts (A : a_A) (v : Nat) : Int32 := a_sum (fun i => if aD A (gL (aG A) (i + 2)) = v then 1 else 0) (gN (aG A) - 2)
def a_fe (A : a_A) (f : Nat) : Option Nat := a_ff (fun g => decide (aT A f = aT A g)) f
def a_lvl (A : a_A) (v : Nat) : Nat := (a_ff (fun j => aD A j == v) (aV A)).getD 0
def q260 (A : a_A) (u : Nat) (w : Int32) : qR := match vi w 7 with
  | none => (1, 0)
  | some 0 => (0, Int32.ofNat (aV A))
  | some 1 => (0, Int32.ofNat (aF A))
  | some 2 => (0, Int32.ofNat (aN A).length)
  | some 3 => (0, a_sum (fun v => if 0 < a_ts A v then 1 else 0) (aV A))
  | some 4 => (0, a_sum (fun f => if a_fe A f = none then 1 else 0) (aF A))
  | some 5 => (0, a_sum (fun f => if a_sup A f = 0 then 1 else 0) (aF A))
  | some _ => (0, Int32.ofNat u)
def q261 (A : a_A) (v w : Int32) : qR := qV A v fun v => match vi w 6 with
  | none => (2, 0)
  | some 0 => (0, Int32.ofNat (a_lvl A v))
  | some 1 => (0, aC A v)
  | some 2 => (0, aP A v)
  | some 3 => (0, a_ts A v)
  | some 4 => (0, a_sum (fun f => if a_dp (aT A f) v then 1 else 0) (aF A))
  | some _ => (0, Int32.ofNat (aVN A v).length)
def q267 (A : a_A) (k w : Int32) : qR := match vi k (gN (aG A)) with
  | none => (1, 0)
  | some k => match vi w 6 with
    | none => (2, 0)
    | some 0 => (0, if k < 2 then Int32.ofInt (-1) else Int32.ofNat (aD A (gL (aG A) k)))
    | some 1 => (0, if k < 2 then Int32.ofInt (-1) else Int32.ofNat (gO (aG A) k))
    | some 2 => (0, if k < 2 then Int32.ofInt (-1) else Int32.ofNat (gH (aG A) k))
    | some 3 => (0, a_sum (fun i => if gO (aG A) (i + 2) = k ∨ gH (aG A) (i + 2) = k then 1 else 0) (gN (aG A) - 2))
    | some 4 => (0, a_sum (fun f => b2 (g_rc (aG A) (aV A) (aR A f) k)) (aF A))
    | some _ => (0, a_sum (fun f => if aR A f = k then 1 else 0) (aF A))
def q290 (A : a_A) (f g : Int32) : qR := qF A f fun f => qF A g fun g => (0, a_sum (fun i => b2 (g_rc (aG A) (aV A) (aR A f) (i + 2) && g_rc (aG A) (aV A) (aR A g) (i + 2))) (gN (aG A) - 2))
def q304 (A : a_A) (l : Int32) : qR := qV A l fun l => (0, a_ts A (aD A l))
theorem rX.sf {G G' : mg_G} (h : rX G G') (a k : Nat) (v : Value) : rX (mg_sF G a k v) (mg_sF G' a k v) :=
  ⟨h.1, h.2.1, h.2.2.1, fun b j hb => by
    show mg_u2 G'.2.2.2.2 a k v b j = mg_u2 G.2.2.2.2 a k v b j
    rw [mg_u2_at, mg_u2_at, h.2.2.2 b j hb]⟩
theorem a_lvl_at {A : a_A} (hW : aW A) {v : Nat} (hv : v < aV A) : a_lvl A v < aV A ∧ aD A (a_lvl A v) = v ∧ ∀ j, j < a_lvl A v → aD A j ≠ v := by
  obtain ⟨j, hj, e⟩ := hW.2.1.2.1 v hv
  unfold a_lvl
  rcases a_ff_is (fun j => aD A j == v) (aV A) with ⟨k, h1, h2, h3, h4⟩ | ⟨h1, h2⟩
  · rw [h2]
    exact ⟨h1, by simpa using h3, fun j hj => by simpa using h4 j hj⟩
  · have := h2 j hj
    rw [e] at this
    simp at this
theorem rGr.u {G : mg_G} {ord : Nat → Nat} {g : a_Gr} (h : rGr G ord g) {z : Nat} (f : Nat → Int32) (hz : 158 < z) : rGr (gM G z f) ord g :=
  ⟨h.1, fun b hb => by
    show mg_u G.1 z f b 0 = _ ∧ mg_u G.1 z f b 1 = _
    rw [mg_u_ne _ _ (by omega)]
    exact h.2.1 b hb, fun k h2 hk => by
    show mg_u G.1 z f 156 k = _ ∧ mg_u G.1 z f 157 k = _ ∧ mg_u G.1 z f 158 k = _
    rw [mg_u_ne _ _ (show 156 ≠ z by omega), mg_u_ne _ _ (show 157 ≠ z by omega), mg_u_ne _ _ (show 158 ≠ z by omega)]
    exact h.2.2 k h2 hk⟩
section RM
variable {scr : Nat × (Nat → Int32)} {t : List mg_S} {G : mg_G} {A : a_A}
theorem r257A (d : Nat) (hg : rGr G (aD A) (aG A)) (hw : gW (aV A) (aG A)) (ho : ∀ j, j < aV A → aD A j < 8) {v : Nat} (hv : v < 8) : mg_m (mg_KM scr t) (d + 1) 257 [.ref 148, .int (Int32.ofNat v)] G (mg_v (.int (a_ts A v)) G) := by
  have h9 := hw.2.1
  have h0 := hw.1
  have hn := hg.1
  have e2 : gN (aG A) = (gN (aG A) - 2) + 2 := by omega
  rw [e2] at hn
  have := r257 (scr := scr) (t := t) d (gN (aG A) - 2) (by omega) (Int32.ofNat v) G hn
  have e : a_sum (fun i => if G.1 156 (i + 2) = Int32.ofNat v then (1 : Int32) else 0) (gN (aG A) - 2) = a_ts A v := by
    refine a_sum_c fun i hi => ?_
    have h1 := (hw.2.2.2.2 (i + 2) (by omega) (by omega)).1
    have h2 := ho _ h1
    rw [(hg.2.2 (i + 2) (by omega) (by omega)).1]
    by_cases h : aD A (gL (aG A) (i + 2)) = v
    · rw [if_pos (by rw [h]), if_pos h]
    · rw [if_neg (fun q => h ((mg_eqN (by omega) (by omega)).mp q)), if_neg h]
  rw [e] at this
  exact this
theorem r259 (d : Nat) (hI : rI G A) {f : Nat} (hf : f < aF A) : mg_m (mg_KM scr t) (d + 3) 259 [.ref 148, .int (Int32.ofNat f)] G (mg_v (.int (Int32.ofNat ((a_fe A f).getD f))) G) := by
  have h12 := hI.f12
  have go : ∀ lev, lev ≤ f → aT A f = aT A lev → (∀ j, j < lev → aT A f ≠ aT A j) → mg_m (mg_KM scr t) (d + 3) 259 [.ref 148, .int (Int32.ofNat f)] G (mg_v (.int (Int32.ofNat lev)) G) := by
    intro lev hl he hno
    refine mg_me [2] 10 my_259 ms_259 (Nat.le_of_ble_eq_true rfl) ?_
    refine mg_loop lev (fun k L G' => L = [some (.ref 148), some (.int (Int32.ofNat f)), some (.int (Int32.ofNat k))] ∧ G' = G) ?_ ?_ _ _ ⟨rfl, rfl⟩
    · rintro k L G' hk ⟨rfl, rfl⟩ ih
      refine mg_go [2] 40 2 ms_259 ?_
      repeat (first | refine ⟨_, mg_Fs rfl rfl, ?_⟩ | refine ⟨_, mg_Fd rfl rfl, ?_⟩ | refine ⟨Or.inl rfl, ?_⟩ | refine ⟨Or.inr ⟨_, rfl⟩, ?_⟩ | refine ⟨fun _ => ?_, fun h => absurd h (by decide)⟩ | refine ⟨fun h => absurd h (by decide), fun _ => ?_⟩)
      refine mg_cv (r193A d hI hf (show k < aF A by omega)) (by omega) ?_
      rw [if_neg (hno k hk)]
      exact ⟨fun h => absurd rfl h, fun _ => ih _ _ ⟨by rw [← mg_inc k], rfl⟩⟩
    · rintro L G' ⟨rfl, rfl⟩
      refine mg_go [2] 40 2 ms_259 ?_
      repeat (first | refine ⟨_, mg_Fs rfl rfl, ?_⟩ | refine ⟨_, mg_Fd rfl rfl, ?_⟩ | refine ⟨Or.inl rfl, ?_⟩ | refine ⟨Or.inr ⟨_, rfl⟩, ?_⟩ | refine ⟨fun _ => ?_, fun h => absurd h (by decide)⟩ | refine ⟨fun h => absurd h (by decide), fun _ => ?_⟩)
      refine mg_cv (r193A d hI hf (show lev < aF A by omega)) (by omega) ?_
      rw [if_pos he]
      exact ⟨fun _ => ⟨Or.inl rfl, rfl, rfl, rfl⟩, fun h => absurd h (by decide)⟩
  unfold a_fe
  rcases a_ff_is (fun g => decide (aT A f = aT A g)) f with ⟨k, h1, h2, h3, h4⟩ | ⟨h1, h2⟩
  · rw [h2]
    exact go k (by omega) (of_decide_eq_true h3) (fun j hj => of_decide_eq_false (h4 j hj))
  · rw [h1]
    exact go f (Nat.le_refl _) rfl (fun j hj => of_decide_eq_false (h2 j hj))
theorem r256A (d : Nat) (hI : rI G A) {v : Nat} (hv : v < aV A) : mg_m (mg_KM scr t) (d + 1) 256 [.ref 148, .int (Int32.ofNat v)] G (mg_v (.int (Int32.ofNat (a_lvl A v))) G) := by
  have h8 := hI.v8
  obtain ⟨h1, h2, h3⟩ := a_lvl_at hI.W hv
  refine r256 d G _ (a_lvl A v) (by omega) (by rw [hI.o h1, h2]) (fun j hj q => ?_)
  rw [hI.o (show j < aV A by omega)] at q
  have := hI.W.o8 j (by omega)
  exact h3 j hj ((mg_eqN (by omega) (by omega)).mp q)
theorem r191A (d : Nat) (hI : rI G A) {f v : Nat} (hf : f < aF A) (hv : v < 8) : mg_m (mg_KM scr t) (d + 4) 191 [.ref 148, .int (Int32.ofNat f), .int (Int32.ofNat v)] G (mg_v (.int (if a_dp (aT A f) v then 1 else 0)) G) := by
  have h12 := hI.f12
  have := r191 (scr := scr) (t := t) d f v (by omega) hv G
  rw [hI.dp hf hv] at this
  exact this
theorem r260 (d : Nat) (hI : rI G A) (u : Nat) (hu : G.2.2.2.2 148 3 = .int (Int32.ofNat u)) (w : Int32) : mg_m (mg_KM scr t) (d + aV A + 8) 260 [.ref 148, .int w] G (rQ G (q260 A u w)) := by
  have h8 := hI.v8
  have h12 := hI.f12
  have hI3 : rI (mg_sF G 148 10 (.int 0)) A := hI
  have nx : ∀ (P : Prop) [Decidable P] (F : Nat → Int32) (k : Nat), F k = (if P then 1 else 0) → a_sum F (k + 1) = a_sum F k + (if P then 1 else 0) := fun P _ F k h => by
    show a_sum F k + F k = _
    rw [h]
  unfold q260
  cases hw : vi w 7 with
  | none =>
    refine mg_me [] 160 my_260 ms_260 (Nat.le_of_ble_eq_true rfl) ?_
    repeat (first | refine ⟨_, mg_Fs rfl rfl, ?_⟩ | refine ⟨_, mg_Fd rfl rfl, ?_⟩ | refine ⟨Or.inl rfl, ?_⟩ | refine ⟨Or.inr ⟨_, rfl⟩, ?_⟩ | refine ⟨fun _ => ?_, fun h => absurd h (by decide)⟩ | refine ⟨fun h => absurd h (by decide), fun _ => ?_⟩)
    refine mg_cv (r177x d hw (by decide) (by decide)) (by omega) ?_
    repeat (first | refine ⟨_, mg_Fs rfl rfl, ?_⟩ | refine ⟨_, mg_Fd rfl rfl, ?_⟩ | refine ⟨Or.inl rfl, ?_⟩ | refine ⟨Or.inr ⟨_, rfl⟩, ?_⟩ | refine ⟨fun _ => ?_, fun h => absurd h (by decide)⟩ | refine ⟨fun h => absurd h (by decide), fun _ => ?_⟩)
    refine mg_cv (r176_1 d _ _) (by omega) ?_
    repeat (first | refine ⟨_, mg_Fs rfl rfl, ?_⟩ | refine ⟨_, mg_Fd rfl rfl, ?_⟩ | refine ⟨Or.inl rfl, ?_⟩ | refine ⟨Or.inr ⟨_, rfl⟩, ?_⟩ | refine ⟨fun _ => ?_, fun h => absurd h (by decide)⟩ | refine ⟨fun h => absurd h (by decide), fun _ => ?_⟩)
    exact ⟨rfl, rfl, rX.rf _⟩
  | some k =>
    obtain ⟨rfl, hk⟩ := vi_s hw
    rcases (show k = 0 ∨ k = 1 ∨ k = 2 ∨ k = 3 ∨ k = 4 ∨ k = 5 ∨ k = 6 by omega) with rfl | rfl | rfl | rfl | rfl | rfl | rfl
    · refine mg_me [90, 124, 159] 160 my_260 ms_260 (Nat.le_of_ble_eq_true rfl) ?_
      repeat (first | refine ⟨_, mg_Fs rfl rfl, ?_⟩ | refine ⟨_, mg_Fd rfl rfl, ?_⟩ | refine ⟨Or.inl rfl, ?_⟩ | refine ⟨Or.inr ⟨_, rfl⟩, ?_⟩ | refine ⟨fun _ => ?_, fun h => absurd h (by decide)⟩ | refine ⟨fun h => absurd h (by decide), fun _ => ?_⟩)
      refine mg_cv (r177y d hw (by decide) (by decide)) (by omega) ?_
      repeat (first | refine ⟨_, mg_Fs rfl rfl, ?_⟩ | refine ⟨_, mg_Fd rfl rfl, ?_⟩ | refine ⟨Or.inl rfl, ?_⟩ | refine ⟨Or.inr ⟨_, rfl⟩, ?_⟩ | refine ⟨fun _ => ?_, fun h => absurd h (by decide)⟩ | refine ⟨fun h => absurd h (by decide), fun _ => ?_⟩)
      refine mg_cv (r176_0 d) (by omega) ?_
      repeat (first | refine ⟨_, mg_Fs rfl rfl, ?_⟩ | refine ⟨_, mg_Fd rfl rfl, ?_⟩ | refine ⟨Or.inl rfl, ?_⟩ | refine ⟨Or.inr ⟨_, rfl⟩, ?_⟩ | refine ⟨fun _ => ?_, fun h => absurd h (by decide)⟩ | refine ⟨fun h => absurd h (by decide), fun _ => ?_⟩)
      refine ⟨by decide, fun h => absurd h (by decide), fun _ => ?_, fun h => absurd h (by decide), fun h => absurd h (by decide), fun h => absurd h (by decide), fun h => absurd h (by decide), fun h => absurd h (by decide), trivial⟩
      repeat (first | refine ⟨_, mg_Fs rfl rfl, ?_⟩ | refine ⟨_, mg_Fd rfl rfl, ?_⟩ | refine ⟨Or.inl rfl, ?_⟩ | refine ⟨Or.inr ⟨_, rfl⟩, ?_⟩ | refine ⟨fun _ => ?_, fun h => absurd h (by decide)⟩ | refine ⟨fun h => absurd h (by decide), fun _ => ?_⟩)
      refine mg_cv (r178n d hI3.v) (by omega) ?_
      repeat (first | refine ⟨_, mg_Fs rfl rfl, ?_⟩ | refine ⟨_, mg_Fd rfl rfl, ?_⟩ | refine ⟨Or.inl rfl, ?_⟩ | refine ⟨Or.inr ⟨_, rfl⟩, ?_⟩ | refine ⟨fun _ => ?_, fun h => absurd h (by decide)⟩ | refine ⟨fun h => absurd h (by decide), fun _ => ?_⟩)
      exact ⟨rfl, rfl, rX.rf _⟩
    · refine mg_me [90, 124, 159] 160 my_260 ms_260 (Nat.le_of_ble_eq_true rfl) ?_
      repeat (first | refine ⟨_, mg_Fs rfl rfl, ?_⟩ | refine ⟨_, mg_Fd rfl rfl, ?_⟩ | refine ⟨Or.inl rfl, ?_⟩ | refine ⟨Or.inr ⟨_, rfl⟩, ?_⟩ | refine ⟨fun _ => ?_, fun h => absurd h (by decide)⟩ | refine ⟨fun h => absurd h (by decide), fun _ => ?_⟩)
      refine mg_cv (r177y d hw (by decide) (by decide)) (by omega) ?_
      repeat (first | refine ⟨_, mg_Fs rfl rfl, ?_⟩ | refine ⟨_, mg_Fd rfl rfl, ?_⟩ | refine ⟨Or.inl rfl, ?_⟩ | refine ⟨Or.inr ⟨_, rfl⟩, ?_⟩ | refine ⟨fun _ => ?_, fun h => absurd h (by decide)⟩ | refine ⟨fun h => absurd h (by decide), fun _ => ?_⟩)
      refine mg_cv (r176_0 d) (by omega) ?_
      repeat (first | refine ⟨_, mg_Fs rfl rfl, ?_⟩ | refine ⟨_, mg_Fd rfl rfl, ?_⟩ | refine ⟨Or.inl rfl, ?_⟩ | refine ⟨Or.inr ⟨_, rfl⟩, ?_⟩ | refine ⟨fun _ => ?_, fun h => absurd h (by decide)⟩ | refine ⟨fun h => absurd h (by decide), fun _ => ?_⟩)
      refine ⟨by decide, fun h => absurd h (by decide), fun h => absurd h (by decide), fun _ => ?_, fun h => absurd h (by decide), fun h => absurd h (by decide), fun h => absurd h (by decide), fun h => absurd h (by decide), trivial⟩
      repeat (first | refine ⟨_, mg_Fs rfl rfl, ?_⟩ | refine ⟨_, mg_Fd rfl rfl, ?_⟩ | refine ⟨Or.inl rfl, ?_⟩ | refine ⟨Or.inr ⟨_, rfl⟩, ?_⟩ | refine ⟨fun _ => ?_, fun h => absurd h (by decide)⟩ | refine ⟨fun h => absurd h (by decide), fun _ => ?_⟩)
      refine mg_cv (r179n d hI3.f) (by omega) ?_
      repeat (first | refine ⟨_, mg_Fs rfl rfl, ?_⟩ | refine ⟨_, mg_Fd rfl rfl, ?_⟩ | refine ⟨Or.inl rfl, ?_⟩ | refine ⟨Or.inr ⟨_, rfl⟩, ?_⟩ | refine ⟨fun _ => ?_, fun h => absurd h (by decide)⟩ | refine ⟨fun h => absurd h (by decide), fun _ => ?_⟩)
      exact ⟨rfl, rfl, rX.rf _⟩
    · refine mg_me [90, 124, 159] 160 my_260 ms_260 (Nat.le_of_ble_eq_true rfl) ?_
      repeat (first | refine ⟨_, mg_Fs rfl rfl, ?_⟩ | refine ⟨_, mg_Fd rfl rfl, ?_⟩ | refine ⟨Or.inl rfl, ?_⟩ | refine ⟨Or.inr ⟨_, rfl⟩, ?_⟩ | refine ⟨fun _ => ?_, fun h => absurd h (by decide)⟩ | refine ⟨fun h => absurd h (by decide), fun _ => ?_⟩)
      refine mg_cv (r177y d hw (by decide) (by decide)) (by omega) ?_
      repeat (first | refine ⟨_, mg_Fs rfl rfl, ?_⟩ | refine ⟨_, mg_Fd rfl rfl, ?_⟩ | refine ⟨Or.inl rfl, ?_⟩ | refine ⟨Or.inr ⟨_, rfl⟩, ?_⟩ | refine ⟨fun _ => ?_, fun h => absurd h (by decide)⟩ | refine ⟨fun h => absurd h (by decide), fun _ => ?_⟩)
      refine mg_cv (r176_0 d) (by omega) ?_
      repeat (first | refine ⟨_, mg_Fs rfl rfl, ?_⟩ | refine ⟨_, mg_Fd rfl rfl, ?_⟩ | refine ⟨Or.inl rfl, ?_⟩ | refine ⟨Or.inr ⟨_, rfl⟩, ?_⟩ | refine ⟨fun _ => ?_, fun h => absurd h (by decide)⟩ | refine ⟨fun h => absurd h (by decide), fun _ => ?_⟩)
      refine ⟨by decide, fun h => absurd h (by decide), fun h => absurd h (by decide), fun h => absurd h (by decide), fun _ => ?_, fun h => absurd h (by decide), fun h => absurd h (by decide), fun h => absurd h (by decide), trivial⟩
      repeat (first | refine ⟨_, mg_Fs rfl rfl, ?_⟩ | refine ⟨_, mg_Fd rfl rfl, ?_⟩ | refine ⟨Or.inl rfl, ?_⟩ | refine ⟨Or.inr ⟨_, rfl⟩, ?_⟩ | refine ⟨fun _ => ?_, fun h => absurd h (by decide)⟩ | refine ⟨fun h => absurd h (by decide), fun _ => ?_⟩)
      refine mg_m_mono (r201A d hI3) (by omega) ?_
      rintro o q G' ⟨rfl, rfl, hX, -⟩
      repeat (first | refine ⟨_, mg_Fs rfl rfl, ?_⟩ | refine ⟨_, mg_Fd rfl rfl, ?_⟩ | refine ⟨Or.inl rfl, ?_⟩ | refine ⟨Or.inr ⟨_, rfl⟩, ?_⟩ | refine ⟨fun _ => ?_, fun h => absurd h (by decide)⟩ | refine ⟨fun h => absurd h (by decide), fun _ => ?_⟩)
      exact ⟨rfl, rfl, hX⟩
    · refine mg_me [90, 124, 159] 160 my_260 ms_260 (Nat.le_of_ble_eq_true rfl) ?_
      repeat (first | refine ⟨_, mg_Fs rfl rfl, ?_⟩ | refine ⟨_, mg_Fd rfl rfl, ?_⟩ | refine ⟨Or.inl rfl, ?_⟩ | refine ⟨Or.inr ⟨_, rfl⟩, ?_⟩ | refine ⟨fun _ => ?_, fun h => absurd h (by decide)⟩ | refine ⟨fun h => absurd h (by decide), fun _ => ?_⟩)
      refine mg_cv (r177y d hw (by decide) (by decide)) (by omega) ?_
      repeat (first | refine ⟨_, mg_Fs rfl rfl, ?_⟩ | refine ⟨_, mg_Fd rfl rfl, ?_⟩ | refine ⟨Or.inl rfl, ?_⟩ | refine ⟨Or.inr ⟨_, rfl⟩, ?_⟩ | refine ⟨fun _ => ?_, fun h => absurd h (by decide)⟩ | refine ⟨fun h => absurd h (by decide), fun _ => ?_⟩)
      refine mg_cv (r176_0 d) (by omega) ?_
      repeat (first | refine ⟨_, mg_Fs rfl rfl, ?_⟩ | refine ⟨_, mg_Fd rfl rfl, ?_⟩ | refine ⟨Or.inl rfl, ?_⟩ | refine ⟨Or.inr ⟨_, rfl⟩, ?_⟩ | refine ⟨fun _ => ?_, fun h => absurd h (by decide)⟩ | refine ⟨fun h => absurd h (by decide), fun _ => ?_⟩)
      refine ⟨by decide, fun h => absurd h (by decide), fun h => absurd h (by decide), fun h => absurd h (by decide), fun h => absurd h (by decide), fun _ => ?_, fun h => absurd h (by decide), fun h => absurd h (by decide), trivial⟩
      repeat (first | refine ⟨_, mg_Fs rfl rfl, ?_⟩ | refine ⟨_, mg_Fd rfl rfl, ?_⟩ | refine ⟨Or.inl rfl, ?_⟩ | refine ⟨Or.inr ⟨_, rfl⟩, ?_⟩ | refine ⟨fun _ => ?_, fun h => absurd h (by decide)⟩ | refine ⟨fun h => absurd h (by decide), fun _ => ?_⟩)
      refine mg_m_mono (r201A d hI3) (by omega) ?_
      rintro o q G1 ⟨rfl, rfl, hX, hgr, hg, hr, -⟩
      have hI4 := hX.I hI3
      repeat (first | refine ⟨_, mg_Fs rfl rfl, ?_⟩ | refine ⟨_, mg_Fd rfl rfl, ?_⟩ | refine ⟨Or.inl rfl, ?_⟩ | refine ⟨Or.inr ⟨_, rfl⟩, ?_⟩ | refine ⟨fun _ => ?_, fun h => absurd h (by decide)⟩ | refine ⟨fun h => absurd h (by decide), fun _ => ?_⟩)
      refine mg_loop (aV A) (fun k L G' => L = [some (.ref 148), some (.int (Int32.ofNat 3)), some (.int (a_sum (fun v => if 0 < a_ts A v then 1 else 0) k)), some (.int (Int32.ofNat k))] ∧ G' = G1) ?_ ?_ _ _ ⟨rfl, rfl⟩
      · rintro k L G' hk ⟨rfl, rfl⟩ ih
        have es : a_sum (fun v => if 0 < a_ts A v then 1 else 0) (k + 1) = a_sum (fun v => if 0 < a_ts A v then 1 else 0) k + (if 0 < a_ts A k then 1 else 0) := rfl
        rw [es, ← mg_inc k] at ih
        refine mg_go [90] 60 90 ms_260 ?_
        repeat (first | refine ⟨_, mg_Fs rfl rfl, ?_⟩ | refine ⟨_, mg_Fd rfl rfl, ?_⟩ | refine ⟨Or.inl rfl, ?_⟩ | refine ⟨Or.inr ⟨_, rfl⟩, ?_⟩ | refine ⟨fun _ => ?_, fun h => absurd h (by decide)⟩ | refine ⟨fun h => absurd h (by decide), fun _ => ?_⟩)
        refine mg_cv (r178n d hI4.v) (by omega) ?_
        refine ⟨fun h => absurd h (mg_nle (by omega) (by omega)), fun _ => ?_⟩
        repeat (first | refine ⟨_, mg_Fs rfl rfl, ?_⟩ | refine ⟨_, mg_Fd rfl rfl, ?_⟩ | refine ⟨Or.inl rfl, ?_⟩ | refine ⟨Or.inr ⟨_, rfl⟩, ?_⟩ | refine ⟨fun _ => ?_, fun h => absurd h (by decide)⟩ | refine ⟨fun h => absurd h (by decide), fun _ => ?_⟩)
        refine mg_cv (r257A d hgr hg hI.W.o8 (show k < 8 by omega)) (by omega) ?_
        refine ⟨fun h => ?_, fun h => ?_⟩
        · exact ih _ _ ⟨by rw [if_neg (Int32.not_lt.mpr h)] <;> rfl, rfl⟩
        · exact ih _ _ ⟨by rw [if_pos h] <;> rfl, rfl⟩
      · rintro L G' ⟨rfl, rfl⟩
        refine mg_go [90] 60 90 ms_260 ?_
        repeat (first | refine ⟨_, mg_Fs rfl rfl, ?_⟩ | refine ⟨_, mg_Fd rfl rfl, ?_⟩ | refine ⟨Or.inl rfl, ?_⟩ | refine ⟨Or.inr ⟨_, rfl⟩, ?_⟩ | refine ⟨fun _ => ?_, fun h => absurd h (by decide)⟩ | refine ⟨fun h => absurd h (by decide), fun _ => ?_⟩)
        refine mg_cv (r178n d hI4.v) (by omega) ?_
        exact ⟨fun _ => ⟨Or.inl rfl, rfl, rfl, hX⟩, fun h => absurd h (Int32.not_lt.mpr (Int32.le_refl _))⟩
    · refine mg_me [90, 124, 159] 160 my_260 ms_260 (Nat.le_of_ble_eq_true rfl) ?_
      repeat (first | refine ⟨_, mg_Fs rfl rfl, ?_⟩ | refine ⟨_, mg_Fd rfl rfl, ?_⟩ | refine ⟨Or.inl rfl, ?_⟩ | refine ⟨Or.inr ⟨_, rfl⟩, ?_⟩ | refine ⟨fun _ => ?_, fun h => absurd h (by decide)⟩ | refine ⟨fun h => absurd h (by decide), fun _ => ?_⟩)
      refine mg_cv (r177y d hw (by decide) (by decide)) (by omega) ?_
      repeat (first | refine ⟨_, mg_Fs rfl rfl, ?_⟩ | refine ⟨_, mg_Fd rfl rfl, ?_⟩ | refine ⟨Or.inl rfl, ?_⟩ | refine ⟨Or.inr ⟨_, rfl⟩, ?_⟩ | refine ⟨fun _ => ?_, fun h => absurd h (by decide)⟩ | refine ⟨fun h => absurd h (by decide), fun _ => ?_⟩)
      refine mg_cv (r176_0 d) (by omega) ?_
      repeat (first | refine ⟨_, mg_Fs rfl rfl, ?_⟩ | refine ⟨_, mg_Fd rfl rfl, ?_⟩ | refine ⟨Or.inl rfl, ?_⟩ | refine ⟨Or.inr ⟨_, rfl⟩, ?_⟩ | refine ⟨fun _ => ?_, fun h => absurd h (by decide)⟩ | refine ⟨fun h => absurd h (by decide), fun _ => ?_⟩)
      refine ⟨by decide, fun h => absurd h (by decide), fun h => absurd h (by decide), fun h => absurd h (by decide), fun h => absurd h (by decide), fun h => absurd h (by decide), fun _ => ?_, fun h => absurd h (by decide), trivial⟩
      refine mg_loop (aF A) (fun k L G' => L = [some (.ref 148), some (.int (Int32.ofNat 4)), some (.int (a_sum (fun f => if a_fe A f = none then 1 else 0) k)), some (.int (Int32.ofNat k))] ∧ G' = mg_sF G 148 10 (.int 0)) ?_ ?_ _ _ ⟨rfl, rfl⟩
      · rintro k L G' hk ⟨rfl, rfl⟩ ih
        have es : a_sum (fun f => if a_fe A f = none then (1 : Int32) else 0) (k + 1) = a_sum (fun f => if a_fe A f = none then 1 else 0) k + (if a_fe A k = none then 1 else 0) := rfl
        rw [es, ← mg_inc k] at ih
        refine mg_go [124] 60 124 ms_260 ?_
        repeat (first | refine ⟨_, mg_Fs rfl rfl, ?_⟩ | refine ⟨_, mg_Fd rfl rfl, ?_⟩ | refine ⟨Or.inl rfl, ?_⟩ | refine ⟨Or.inr ⟨_, rfl⟩, ?_⟩ | refine ⟨fun _ => ?_, fun h => absurd h (by decide)⟩ | refine ⟨fun h => absurd h (by decide), fun _ => ?_⟩)
        refine mg_cv (r179n d hI3.f) (by omega) ?_
        refine ⟨fun h => absurd h (mg_nle (by omega) (by omega)), fun _ => ?_⟩
        repeat (first | refine ⟨_, mg_Fs rfl rfl, ?_⟩ | refine ⟨_, mg_Fd rfl rfl, ?_⟩ | refine ⟨Or.inl rfl, ?_⟩ | refine ⟨Or.inr ⟨_, rfl⟩, ?_⟩ | refine ⟨fun _ => ?_, fun h => absurd h (by decide)⟩ | refine ⟨fun h => absurd h (by decide), fun _ => ?_⟩)
        refine mg_cv (r259 d hI3 hk) (by omega) ?_
        cases hfe : a_fe A k with
        | none =>
          rw [hfe, if_pos rfl] at ih
          exact ⟨fun h => absurd rfl h, fun _ => ih _ _ ⟨rfl, rfl⟩⟩
        | some b =>
          rw [hfe, if_neg (by intro q; cases q)] at ih
          have hb : b < k := by
            unfold a_fe at hfe
            rcases a_ff_is (fun g => decide (aT A k = aT A g)) k with ⟨c, h1, h2, -, -⟩ | ⟨h1, -⟩
            · rw [h2] at hfe
              have := Option.some.inj hfe
              omega
            · rw [h1] at hfe
              cases hfe
          refine ⟨fun _ => ih _ _ ⟨rfl, rfl⟩, fun h => ?_⟩
          have := (mg_eqN (a := b) (by omega) (by omega)).mp h
          omega
      · rintro L G' ⟨rfl, rfl⟩
        refine mg_go [124] 60 124 ms_260 ?_
        repeat (first | refine ⟨_, mg_Fs rfl rfl, ?_⟩ | refine ⟨_, mg_Fd rfl rfl, ?_⟩ | refine ⟨Or.inl rfl, ?_⟩ | refine ⟨Or.inr ⟨_, rfl⟩, ?_⟩ | refine ⟨fun _ => ?_, fun h => absurd h (by decide)⟩ | refine ⟨fun h => absurd h (by decide), fun _ => ?_⟩)
        refine mg_cv (r179n d hI3.f) (by omega) ?_
        exact ⟨fun _ => ⟨Or.inl rfl, rfl, rfl, rX.rf _⟩, fun h => absurd h (Int32.not_lt.mpr (Int32.le_refl _))⟩
    · refine mg_me [90, 124, 159] 160 my_260 ms_260 (Nat.le_of_ble_eq_true rfl) ?_
      repeat (first | refine ⟨_, mg_Fs rfl rfl, ?_⟩ | refine ⟨_, mg_Fd rfl rfl, ?_⟩ | refine ⟨Or.inl rfl, ?_⟩ | refine ⟨Or.inr ⟨_, rfl⟩, ?_⟩ | refine ⟨fun _ => ?_, fun h => absurd h (by decide)⟩ | refine ⟨fun h => absurd h (by decide), fun _ => ?_⟩)
      refine mg_cv (r177y d hw (by decide) (by decide)) (by omega) ?_
      repeat (first | refine ⟨_, mg_Fs rfl rfl, ?_⟩ | refine ⟨_, mg_Fd rfl rfl, ?_⟩ | refine ⟨Or.inl rfl, ?_⟩ | refine ⟨Or.inr ⟨_, rfl⟩, ?_⟩ | refine ⟨fun _ => ?_, fun h => absurd h (by decide)⟩ | refine ⟨fun h => absurd h (by decide), fun _ => ?_⟩)
      refine mg_cv (r176_0 d) (by omega) ?_
      repeat (first | refine ⟨_, mg_Fs rfl rfl, ?_⟩ | refine ⟨_, mg_Fd rfl rfl, ?_⟩ | refine ⟨Or.inl rfl, ?_⟩ | refine ⟨Or.inr ⟨_, rfl⟩, ?_⟩ | refine ⟨fun _ => ?_, fun h => absurd h (by decide)⟩ | refine ⟨fun h => absurd h (by decide), fun _ => ?_⟩)
      refine ⟨by decide, fun h => absurd h (by decide), fun h => absurd h (by decide), fun h => absurd h (by decide), fun h => absurd h (by decide), fun h => absurd h (by decide), fun h => absurd h (by decide), fun _ => ?_, trivial⟩
      refine mg_loop (aF A) (fun k L G' => L = [some (.ref 148), some (.int (Int32.ofNat 5)), some (.int (a_sum (fun f => if a_sup A f = 0 then 1 else 0) k)), some (.int (Int32.ofNat k))] ∧ G' = mg_sF G 148 10 (.int 0)) ?_ ?_ _ _ ⟨rfl, rfl⟩
      · rintro k L G' hk ⟨rfl, rfl⟩ ih
        have es : a_sum (fun f => if a_sup A f = 0 then (1 : Int32) else 0) (k + 1) = a_sum (fun f => if a_sup A f = 0 then 1 else 0) k + (if a_sup A k = 0 then 1 else 0) := rfl
        rw [es, ← mg_inc k] at ih
        refine mg_go [159] 60 159 ms_260 ?_
        repeat (first | refine ⟨_, mg_Fs rfl rfl, ?_⟩ | refine ⟨_, mg_Fd rfl rfl, ?_⟩ | refine ⟨Or.inl rfl, ?_⟩ | refine ⟨Or.inr ⟨_, rfl⟩, ?_⟩ | refine ⟨fun _ => ?_, fun h => absurd h (by decide)⟩ | refine ⟨fun h => absurd h (by decide), fun _ => ?_⟩)
        refine mg_cv (r179n d hI3.f) (by omega) ?_
        refine ⟨fun h => absurd h (mg_nle (by omega) (by omega)), fun _ => ?_⟩
        repeat (first | refine ⟨_, mg_Fs rfl rfl, ?_⟩ | refine ⟨_, mg_Fd rfl rfl, ?_⟩ | refine ⟨Or.inl rfl, ?_⟩ | refine ⟨Or.inr ⟨_, rfl⟩, ?_⟩ | refine ⟨fun _ => ?_, fun h => absurd h (by decide)⟩ | refine ⟨fun h => absurd h (by decide), fun _ => ?_⟩)
        refine mg_cv (r258A d hI3 hk) (by omega) ?_
        refine ⟨fun h => ?_, fun h => ?_⟩
        · exact ih _ _ ⟨by rw [if_neg h] <;> rfl, rfl⟩
        · exact ih _ _ ⟨by rw [if_pos h] <;> rfl, rfl⟩
      · rintro L G' ⟨rfl, rfl⟩
        refine mg_go [159] 60 159 ms_260 ?_
        repeat (first | refine ⟨_, mg_Fs rfl rfl, ?_⟩ | refine ⟨_, mg_Fd rfl rfl, ?_⟩ | refine ⟨Or.inl rfl, ?_⟩ | refine ⟨Or.inr ⟨_, rfl⟩, ?_⟩ | refine ⟨fun _ => ?_, fun h => absurd h (by decide)⟩ | refine ⟨fun h => absurd h (by decide), fun _ => ?_⟩)
        refine mg_cv (r179n d hI3.f) (by omega) ?_
        exact ⟨fun _ => ⟨Or.inl rfl, rfl, rfl, rX.rf _⟩, fun h => absurd h (Int32.not_lt.mpr (Int32.le_refl _))⟩
    · refine mg_me [90, 124, 159] 160 my_260 ms_260 (Nat.le_of_ble_eq_true rfl) ?_
      repeat (first | refine ⟨_, mg_Fs rfl rfl, ?_⟩ | refine ⟨_, mg_Fd rfl rfl, ?_⟩ | refine ⟨Or.inl rfl, ?_⟩ | refine ⟨Or.inr ⟨_, rfl⟩, ?_⟩ | refine ⟨fun _ => ?_, fun h => absurd h (by decide)⟩ | refine ⟨fun h => absurd h (by decide), fun _ => ?_⟩)
      refine mg_cv (r177y d hw (by decide) (by decide)) (by omega) ?_
      repeat (first | refine ⟨_, mg_Fs rfl rfl, ?_⟩ | refine ⟨_, mg_Fd rfl rfl, ?_⟩ | refine ⟨Or.inl rfl, ?_⟩ | refine ⟨Or.inr ⟨_, rfl⟩, ?_⟩ | refine ⟨fun _ => ?_, fun h => absurd h (by decide)⟩ | refine ⟨fun h => absurd h (by decide), fun _ => ?_⟩)
      refine mg_cv (r176_0 d) (by omega) ?_
      repeat (first | refine ⟨_, mg_Fs rfl rfl, ?_⟩ | refine ⟨_, mg_Fd rfl rfl, ?_⟩ | refine ⟨Or.inl rfl, ?_⟩ | refine ⟨Or.inr ⟨_, rfl⟩, ?_⟩ | refine ⟨fun _ => ?_, fun h => absurd h (by decide)⟩ | refine ⟨fun h => absurd h (by decide), fun _ => ?_⟩)
      refine ⟨by decide, fun _ => ?_, fun h => absurd h (by decide), fun h => absurd h (by decide), fun h => absurd h (by decide), fun h => absurd h (by decide), fun h => absurd h (by decide), fun h => absurd h (by decide), trivial⟩
      have hu3 : (mg_sF G 148 10 (.int 0)).2.2.2.2 148 3 = .int (Int32.ofNat u) := by
        show mg_u2 G.2.2.2.2 148 10 (.int 0) 148 3 = _
        rw [mg_u2_at, if_neg (by decide)]
        exact hu
      refine ⟨_, mg_Fe hu3 rfl rfl, ?_⟩
      repeat (first | refine ⟨_, mg_Fs rfl rfl, ?_⟩ | refine ⟨_, mg_Fd rfl rfl, ?_⟩ | refine ⟨Or.inl rfl, ?_⟩ | refine ⟨Or.inr ⟨_, rfl⟩, ?_⟩ | refine ⟨fun _ => ?_, fun h => absurd h (by decide)⟩ | refine ⟨fun h => absurd h (by decide), fun _ => ?_⟩)
      exact ⟨rfl, rfl, rX.rf _⟩
theorem r261 (d : Nat) (hI : rI G A) (v w : Int32) : mg_m (mg_KM scr t) (d + aV A + 8) 261 [.ref 148, .int v, .int w] G (rQ G (q261 A v w)) := by
  have h8 := hI.v8
  have h12 := hI.f12
  have hI3 : rI (mg_sF G 148 10 (.int 0)) A := hI
  unfold q261
  cases hv : vi v (aV A) with
  | none =>
    rw [qV_x hv]
    refine mg_me [] 160 my_261 ms_261 (Nat.le_of_ble_eq_true rfl) ?_
    repeat (first | refine ⟨_, mg_Fs rfl rfl, ?_⟩ | refine ⟨_, mg_Fd rfl rfl, ?_⟩ | refine ⟨Or.inl rfl, ?_⟩ | refine ⟨Or.inr ⟨_, rfl⟩, ?_⟩ | refine ⟨fun _ => ?_, fun h => absurd h (by decide)⟩ | refine ⟨fun h => absurd h (by decide), fun _ => ?_⟩)
    refine mg_cv (r180x d hI hv) (by omega) ?_
    repeat (first | refine ⟨_, mg_Fs rfl rfl, ?_⟩ | refine ⟨_, mg_Fd rfl rfl, ?_⟩ | refine ⟨Or.inl rfl, ?_⟩ | refine ⟨Or.inr ⟨_, rfl⟩, ?_⟩ | refine ⟨fun _ => ?_, fun h => absurd h (by decide)⟩ | refine ⟨fun h => absurd h (by decide), fun _ => ?_⟩)
    refine mg_cv (r177 d w 0 _ G) (by omega) ?_
    refine ⟨fun _ => ?_, fun _ => ?_⟩
    · repeat (first | refine ⟨_, mg_Fs rfl rfl, ?_⟩ | refine ⟨_, mg_Fd rfl rfl, ?_⟩ | refine ⟨Or.inl rfl, ?_⟩ | refine ⟨Or.inr ⟨_, rfl⟩, ?_⟩ | refine ⟨fun _ => ?_, fun h => absurd h (by decide)⟩ | refine ⟨fun h => absurd h (by decide), fun _ => ?_⟩)
      refine mg_cv (r176_1 d _ _) (by omega) ?_
      repeat (first | refine ⟨_, mg_Fs rfl rfl, ?_⟩ | refine ⟨_, mg_Fd rfl rfl, ?_⟩ | refine ⟨Or.inl rfl, ?_⟩ | refine ⟨Or.inr ⟨_, rfl⟩, ?_⟩ | refine ⟨fun _ => ?_, fun h => absurd h (by decide)⟩ | refine ⟨fun h => absurd h (by decide), fun _ => ?_⟩)
      exact ⟨rfl, rfl, rX.rf _⟩
    · repeat (first | refine ⟨_, mg_Fs rfl rfl, ?_⟩ | refine ⟨_, mg_Fd rfl rfl, ?_⟩ | refine ⟨Or.inl rfl, ?_⟩ | refine ⟨Or.inr ⟨_, rfl⟩, ?_⟩ | refine ⟨fun _ => ?_, fun h => absurd h (by decide)⟩ | refine ⟨fun h => absurd h (by decide), fun _ => ?_⟩)
      refine mg_cv (r176_1 d _ _) (by omega) ?_
      repeat (first | refine ⟨_, mg_Fs rfl rfl, ?_⟩ | refine ⟨_, mg_Fd rfl rfl, ?_⟩ | refine ⟨Or.inl rfl, ?_⟩ | refine ⟨Or.inr ⟨_, rfl⟩, ?_⟩ | refine ⟨fun _ => ?_, fun h => absurd h (by decide)⟩ | refine ⟨fun h => absurd h (by decide), fun _ => ?_⟩)
      exact ⟨rfl, rfl, rX.rf _⟩
  | some i =>
    obtain ⟨rfl, hi⟩ := vi_s hv
    rw [qV_y hv]
    cases hw : vi w 6 with
    | none =>
      refine mg_me [] 160 my_261 ms_261 (Nat.le_of_ble_eq_true rfl) ?_
      repeat (first | refine ⟨_, mg_Fs rfl rfl, ?_⟩ | refine ⟨_, mg_Fd rfl rfl, ?_⟩ | refine ⟨Or.inl rfl, ?_⟩ | refine ⟨Or.inr ⟨_, rfl⟩, ?_⟩ | refine ⟨fun _ => ?_, fun h => absurd h (by decide)⟩ | refine ⟨fun h => absurd h (by decide), fun _ => ?_⟩)
      refine mg_cv (r180y d hI hv) (by omega) ?_
      repeat (first | refine ⟨_, mg_Fs rfl rfl, ?_⟩ | refine ⟨_, mg_Fd rfl rfl, ?_⟩ | refine ⟨Or.inl rfl, ?_⟩ | refine ⟨Or.inr ⟨_, rfl⟩, ?_⟩ | refine ⟨fun _ => ?_, fun h => absurd h (by decide)⟩ | refine ⟨fun h => absurd h (by decide), fun _ => ?_⟩)
      refine mg_cv (r177x d hw (by decide) (by decide)) (by omega) ?_
      repeat (first | refine ⟨_, mg_Fs rfl rfl, ?_⟩ | refine ⟨_, mg_Fd rfl rfl, ?_⟩ | refine ⟨Or.inl rfl, ?_⟩ | refine ⟨Or.inr ⟨_, rfl⟩, ?_⟩ | refine ⟨fun _ => ?_, fun h => absurd h (by decide)⟩ | refine ⟨fun h => absurd h (by decide), fun _ => ?_⟩)
      refine mg_cv (r176_2 d _) (by omega) ?_
      repeat (first | refine ⟨_, mg_Fs rfl rfl, ?_⟩ | refine ⟨_, mg_Fd rfl rfl, ?_⟩ | refine ⟨Or.inl rfl, ?_⟩ | refine ⟨Or.inr ⟨_, rfl⟩, ?_⟩ | refine ⟨fun _ => ?_, fun h => absurd h (by decide)⟩ | refine ⟨fun h => absurd h (by decide), fun _ => ?_⟩)
      exact ⟨rfl, rfl, rX.rf _⟩
    | some k =>
      obtain ⟨rfl, hk⟩ := vi_s hw
      rcases (show k = 0 ∨ k = 1 ∨ k = 2 ∨ k = 3 ∨ k = 4 ∨ k = 5 by omega) with rfl | rfl | rfl | rfl | rfl | rfl
      · refine mg_me [114] 160 my_261 ms_261 (Nat.le_of_ble_eq_true rfl) ?_
        repeat (first | refine ⟨_, mg_Fs rfl rfl, ?_⟩ | refine ⟨_, mg_Fd rfl rfl, ?_⟩ | refine ⟨Or.inl rfl, ?_⟩ | refine ⟨Or.inr ⟨_, rfl⟩, ?_⟩ | refine ⟨fun _ => ?_, fun h => absurd h (by decide)⟩ | refine ⟨fun h => absurd h (by decide), fun _ => ?_⟩)
        refine mg_cv (r180y d hI hv) (by omega) ?_
        repeat (first | refine ⟨_, mg_Fs rfl rfl, ?_⟩ | refine ⟨_, mg_Fd rfl rfl, ?_⟩ | refine ⟨Or.inl rfl, ?_⟩ | refine ⟨Or.inr ⟨_, rfl⟩, ?_⟩ | refine ⟨fun _ => ?_, fun h => absurd h (by decide)⟩ | refine ⟨fun h => absurd h (by decide), fun _ => ?_⟩)
        refine mg_cv (r177y d hw (by decide) (by decide)) (by omega) ?_
        repeat (first | refine ⟨_, mg_Fs rfl rfl, ?_⟩ | refine ⟨_, mg_Fd rfl rfl, ?_⟩ | refine ⟨Or.inl rfl, ?_⟩ | refine ⟨Or.inr ⟨_, rfl⟩, ?_⟩ | refine ⟨fun _ => ?_, fun h => absurd h (by decide)⟩ | refine ⟨fun h => absurd h (by decide), fun _ => ?_⟩)
        refine mg_cv (r176_0 d) (by omega) ?_
        repeat (first | refine ⟨_, mg_Fs rfl rfl, ?_⟩ | refine ⟨_, mg_Fd rfl rfl, ?_⟩ | refine ⟨Or.inl rfl, ?_⟩ | refine ⟨Or.inr ⟨_, rfl⟩, ?_⟩ | refine ⟨fun _ => ?_, fun h => absurd h (by decide)⟩ | refine ⟨fun h => absurd h (by decide), fun _ => ?_⟩)
        refine ⟨by decide, fun h => absurd h (by decide), fun _ => ?_, fun h => absurd h (by decide), fun h => absurd h (by decide), fun h => absurd h (by decide), fun h => absurd h (by decide), trivial⟩
        repeat (first | refine ⟨_, mg_Fs rfl rfl, ?_⟩ | refine ⟨_, mg_Fd rfl rfl, ?_⟩ | refine ⟨Or.inl rfl, ?_⟩ | refine ⟨Or.inr ⟨_, rfl⟩, ?_⟩ | refine ⟨fun _ => ?_, fun h => absurd h (by decide)⟩ | refine ⟨fun h => absurd h (by decide), fun _ => ?_⟩)
        refine mg_cv (r256A d hI3 hi) (by omega) ?_
        repeat (first | refine ⟨_, mg_Fs rfl rfl, ?_⟩ | refine ⟨_, mg_Fd rfl rfl, ?_⟩ | refine ⟨Or.inl rfl, ?_⟩ | refine ⟨Or.inr ⟨_, rfl⟩, ?_⟩ | refine ⟨fun _ => ?_, fun h => absurd h (by decide)⟩ | refine ⟨fun h => absurd h (by decide), fun _ => ?_⟩)
        exact ⟨rfl, rfl, rX.rf _⟩
      · refine mg_me [114] 160 my_261 ms_261 (Nat.le_of_ble_eq_true rfl) ?_
        repeat (first | refine ⟨_, mg_Fs rfl rfl, ?_⟩ | refine ⟨_, mg_Fd rfl rfl, ?_⟩ | refine ⟨Or.inl rfl, ?_⟩ | refine ⟨Or.inr ⟨_, rfl⟩, ?_⟩ | refine ⟨fun _ => ?_, fun h => absurd h (by decide)⟩ | refine ⟨fun h => absurd h (by decide), fun _ => ?_⟩)
        refine mg_cv (r180y d hI hv) (by omega) ?_
        repeat (first | refine ⟨_, mg_Fs rfl rfl, ?_⟩ | refine ⟨_, mg_Fd rfl rfl, ?_⟩ | refine ⟨Or.inl rfl, ?_⟩ | refine ⟨Or.inr ⟨_, rfl⟩, ?_⟩ | refine ⟨fun _ => ?_, fun h => absurd h (by decide)⟩ | refine ⟨fun h => absurd h (by decide), fun _ => ?_⟩)
        refine mg_cv (r177y d hw (by decide) (by decide)) (by omega) ?_
        repeat (first | refine ⟨_, mg_Fs rfl rfl, ?_⟩ | refine ⟨_, mg_Fd rfl rfl, ?_⟩ | refine ⟨Or.inl rfl, ?_⟩ | refine ⟨Or.inr ⟨_, rfl⟩, ?_⟩ | refine ⟨fun _ => ?_, fun h => absurd h (by decide)⟩ | refine ⟨fun h => absurd h (by decide), fun _ => ?_⟩)
        refine mg_cv (r176_0 d) (by omega) ?_
        repeat (first | refine ⟨_, mg_Fs rfl rfl, ?_⟩ | refine ⟨_, mg_Fd rfl rfl, ?_⟩ | refine ⟨Or.inl rfl, ?_⟩ | refine ⟨Or.inr ⟨_, rfl⟩, ?_⟩ | refine ⟨fun _ => ?_, fun h => absurd h (by decide)⟩ | refine ⟨fun h => absurd h (by decide), fun _ => ?_⟩)
        refine ⟨by decide, fun h => absurd h (by decide), fun h => absurd h (by decide), fun _ => ?_, fun h => absurd h (by decide), fun h => absurd h (by decide), fun h => absurd h (by decide), trivial⟩
        repeat (first | refine ⟨_, mg_Fs rfl rfl, ?_⟩ | refine ⟨_, mg_Fd rfl rfl, ?_⟩ | refine ⟨Or.inl rfl, ?_⟩ | refine ⟨Or.inr ⟨_, rfl⟩, ?_⟩ | refine ⟨fun _ => ?_, fun h => absurd h (by decide)⟩ | refine ⟨fun h => absurd h (by decide), fun _ => ?_⟩)
        refine ⟨_, _, 10 + i, mg_Ai rfl (by decide), mg_ixE (by rw [Int32.ofNat_add]; rfl) (by omega), by omega, Or.inl rfl, rfl, ?_, rX.rf _⟩
        rw [show (mg_sF G 148 10 (.int 0)).1 149 (10 + i) = _ from hI.c hi]
        rfl
      · refine mg_me [114] 160 my_261 ms_261 (Nat.le_of_ble_eq_true rfl) ?_
        repeat (first | refine ⟨_, mg_Fs rfl rfl, ?_⟩ | refine ⟨_, mg_Fd rfl rfl, ?_⟩ | refine ⟨Or.inl rfl, ?_⟩ | refine ⟨Or.inr ⟨_, rfl⟩, ?_⟩ | refine ⟨fun _ => ?_, fun h => absurd h (by decide)⟩ | refine ⟨fun h => absurd h (by decide), fun _ => ?_⟩)
        refine mg_cv (r180y d hI hv) (by omega) ?_
        repeat (first | refine ⟨_, mg_Fs rfl rfl, ?_⟩ | refine ⟨_, mg_Fd rfl rfl, ?_⟩ | refine ⟨Or.inl rfl, ?_⟩ | refine ⟨Or.inr ⟨_, rfl⟩, ?_⟩ | refine ⟨fun _ => ?_, fun h => absurd h (by decide)⟩ | refine ⟨fun h => absurd h (by decide), fun _ => ?_⟩)
        refine mg_cv (r177y d hw (by decide) (by decide)) (by omega) ?_
        repeat (first | refine ⟨_, mg_Fs rfl rfl, ?_⟩ | refine ⟨_, mg_Fd rfl rfl, ?_⟩ | refine ⟨Or.inl rfl, ?_⟩ | refine ⟨Or.inr ⟨_, rfl⟩, ?_⟩ | refine ⟨fun _ => ?_, fun h => absurd h (by decide)⟩ | refine ⟨fun h => absurd h (by decide), fun _ => ?_⟩)
        refine mg_cv (r176_0 d) (by omega) ?_
        repeat (first | refine ⟨_, mg_Fs rfl rfl, ?_⟩ | refine ⟨_, mg_Fd rfl rfl, ?_⟩ | refine ⟨Or.inl rfl, ?_⟩ | refine ⟨Or.inr ⟨_, rfl⟩, ?_⟩ | refine ⟨fun _ => ?_, fun h => absurd h (by decide)⟩ | refine ⟨fun h => absurd h (by decide), fun _ => ?_⟩)
        refine ⟨by decide, fun h => absurd h (by decide), fun h => absurd h (by decide), fun h => absurd h (by decide), fun _ => ?_, fun h => absurd h (by decide), fun h => absurd h (by decide), trivial⟩
        repeat (first | refine ⟨_, mg_Fs rfl rfl, ?_⟩ | refine ⟨_, mg_Fd rfl rfl, ?_⟩ | refine ⟨Or.inl rfl, ?_⟩ | refine ⟨Or.inr ⟨_, rfl⟩, ?_⟩ | refine ⟨fun _ => ?_, fun h => absurd h (by decide)⟩ | refine ⟨fun h => absurd h (by decide), fun _ => ?_⟩)
        refine ⟨_, _, 18 + i, mg_Ai rfl (by decide), mg_ixE (by rw [Int32.ofNat_add]; rfl) (by omega), by omega, Or.inl rfl, rfl, ?_, rX.rf _⟩
        rw [show (mg_sF G 148 10 (.int 0)).1 149 (18 + i) = _ from hI.p hi]
        rfl
      · refine mg_me [114] 160 my_261 ms_261 (Nat.le_of_ble_eq_true rfl) ?_
        repeat (first | refine ⟨_, mg_Fs rfl rfl, ?_⟩ | refine ⟨_, mg_Fd rfl rfl, ?_⟩ | refine ⟨Or.inl rfl, ?_⟩ | refine ⟨Or.inr ⟨_, rfl⟩, ?_⟩ | refine ⟨fun _ => ?_, fun h => absurd h (by decide)⟩ | refine ⟨fun h => absurd h (by decide), fun _ => ?_⟩)
        refine mg_cv (r180y d hI hv) (by omega) ?_
        repeat (first | refine ⟨_, mg_Fs rfl rfl, ?_⟩ | refine ⟨_, mg_Fd rfl rfl, ?_⟩ | refine ⟨Or.inl rfl, ?_⟩ | refine ⟨Or.inr ⟨_, rfl⟩, ?_⟩ | refine ⟨fun _ => ?_, fun h => absurd h (by decide)⟩ | refine ⟨fun h => absurd h (by decide), fun _ => ?_⟩)
        refine mg_cv (r177y d hw (by decide) (by decide)) (by omega) ?_
        repeat (first | refine ⟨_, mg_Fs rfl rfl, ?_⟩ | refine ⟨_, mg_Fd rfl rfl, ?_⟩ | refine ⟨Or.inl rfl, ?_⟩ | refine ⟨Or.inr ⟨_, rfl⟩, ?_⟩ | refine ⟨fun _ => ?_, fun h => absurd h (by decide)⟩ | refine ⟨fun h => absurd h (by decide), fun _ => ?_⟩)
        refine mg_cv (r176_0 d) (by omega) ?_
        repeat (first | refine ⟨_, mg_Fs rfl rfl, ?_⟩ | refine ⟨_, mg_Fd rfl rfl, ?_⟩ | refine ⟨Or.inl rfl, ?_⟩ | refine ⟨Or.inr ⟨_, rfl⟩, ?_⟩ | refine ⟨fun _ => ?_, fun h => absurd h (by decide)⟩ | refine ⟨fun h => absurd h (by decide), fun _ => ?_⟩)
        refine ⟨by decide, fun h => absurd h (by decide), fun h => absurd h (by decide), fun h => absurd h (by decide), fun h => absurd h (by decide), fun _ => ?_, fun h => absurd h (by decide), trivial⟩
        repeat (first | refine ⟨_, mg_Fs rfl rfl, ?_⟩ | refine ⟨_, mg_Fd rfl rfl, ?_⟩ | refine ⟨Or.inl rfl, ?_⟩ | refine ⟨Or.inr ⟨_, rfl⟩, ?_⟩ | refine ⟨fun _ => ?_, fun h => absurd h (by decide)⟩ | refine ⟨fun h => absurd h (by decide), fun _ => ?_⟩)
        refine mg_m_mono (r201A d hI3) (by omega) ?_
        rintro o q G1 ⟨rfl, rfl, hX, hgr, hg, hr, -⟩
        repeat (first | refine ⟨_, mg_Fs rfl rfl, ?_⟩ | refine ⟨_, mg_Fd rfl rfl, ?_⟩ | refine ⟨Or.inl rfl, ?_⟩ | refine ⟨Or.inr ⟨_, rfl⟩, ?_⟩ | refine ⟨fun _ => ?_, fun h => absurd h (by decide)⟩ | refine ⟨fun h => absurd h (by decide), fun _ => ?_⟩)
        refine mg_cv (r257A d hgr hg hI.W.o8 (show i < 8 by omega)) (by omega) ?_
        repeat (first | refine ⟨_, mg_Fs rfl rfl, ?_⟩ | refine ⟨_, mg_Fd rfl rfl, ?_⟩ | refine ⟨Or.inl rfl, ?_⟩ | refine ⟨Or.inr ⟨_, rfl⟩, ?_⟩ | refine ⟨fun _ => ?_, fun h => absurd h (by decide)⟩ | refine ⟨fun h => absurd h (by decide), fun _ => ?_⟩)
        exact ⟨rfl, rfl, hX⟩
      · refine mg_me [114] 160 my_261 ms_261 (Nat.le_of_ble_eq_true rfl) ?_
        repeat (first | refine ⟨_, mg_Fs rfl rfl, ?_⟩ | refine ⟨_, mg_Fd rfl rfl, ?_⟩ | refine ⟨Or.inl rfl, ?_⟩ | refine ⟨Or.inr ⟨_, rfl⟩, ?_⟩ | refine ⟨fun _ => ?_, fun h => absurd h (by decide)⟩ | refine ⟨fun h => absurd h (by decide), fun _ => ?_⟩)
        refine mg_cv (r180y d hI hv) (by omega) ?_
        repeat (first | refine ⟨_, mg_Fs rfl rfl, ?_⟩ | refine ⟨_, mg_Fd rfl rfl, ?_⟩ | refine ⟨Or.inl rfl, ?_⟩ | refine ⟨Or.inr ⟨_, rfl⟩, ?_⟩ | refine ⟨fun _ => ?_, fun h => absurd h (by decide)⟩ | refine ⟨fun h => absurd h (by decide), fun _ => ?_⟩)
        refine mg_cv (r177y d hw (by decide) (by decide)) (by omega) ?_
        repeat (first | refine ⟨_, mg_Fs rfl rfl, ?_⟩ | refine ⟨_, mg_Fd rfl rfl, ?_⟩ | refine ⟨Or.inl rfl, ?_⟩ | refine ⟨Or.inr ⟨_, rfl⟩, ?_⟩ | refine ⟨fun _ => ?_, fun h => absurd h (by decide)⟩ | refine ⟨fun h => absurd h (by decide), fun _ => ?_⟩)
        refine mg_cv (r176_0 d) (by omega) ?_
        repeat (first | refine ⟨_, mg_Fs rfl rfl, ?_⟩ | refine ⟨_, mg_Fd rfl rfl, ?_⟩ | refine ⟨Or.inl rfl, ?_⟩ | refine ⟨Or.inr ⟨_, rfl⟩, ?_⟩ | refine ⟨fun _ => ?_, fun h => absurd h (by decide)⟩ | refine ⟨fun h => absurd h (by decide), fun _ => ?_⟩)
        refine ⟨by decide, fun h => absurd h (by decide), fun h => absurd h (by decide), fun h => absurd h (by decide), fun h => absurd h (by decide), fun h => absurd h (by decide), fun _ => ?_, trivial⟩
        refine mg_loop (aF A) (fun k L G' => L = [some (.ref 148), some (.int (Int32.ofNat i)), some (.int (Int32.ofNat 4)), some (.int (a_sum (fun f => if a_dp (aT A f) i then 1 else 0) k)), some (.int (Int32.ofNat k))] ∧ G' = mg_sF G 148 10 (.int 0)) ?_ ?_ _ _ ⟨rfl, rfl⟩
        · rintro k L G' hk ⟨rfl, rfl⟩ ih
          have es : a_sum (fun f => if a_dp (aT A f) i then (1 : Int32) else 0) (k + 1) = a_sum (fun f => if a_dp (aT A f) i then 1 else 0) k + (if a_dp (aT A k) i then 1 else 0) := rfl
          rw [es, ← mg_inc k] at ih
          refine mg_go [114] 60 114 ms_261 ?_
          repeat (first | refine ⟨_, mg_Fs rfl rfl, ?_⟩ | refine ⟨_, mg_Fd rfl rfl, ?_⟩ | refine ⟨Or.inl rfl, ?_⟩ | refine ⟨Or.inr ⟨_, rfl⟩, ?_⟩ | refine ⟨fun _ => ?_, fun h => absurd h (by decide)⟩ | refine ⟨fun h => absurd h (by decide), fun _ => ?_⟩)
          refine mg_cv (r179n d hI3.f) (by omega) ?_
          refine ⟨fun h => absurd h (mg_nle (by omega) (by omega)), fun _ => ?_⟩
          repeat (first | refine ⟨_, mg_Fs rfl rfl, ?_⟩ | refine ⟨_, mg_Fd rfl rfl, ?_⟩ | refine ⟨Or.inl rfl, ?_⟩ | refine ⟨Or.inr ⟨_, rfl⟩, ?_⟩ | refine ⟨fun _ => ?_, fun h => absurd h (by decide)⟩ | refine ⟨fun h => absurd h (by decide), fun _ => ?_⟩)
          refine mg_cv (r191A d hI3 hk (show i < 8 by omega)) (by omega) ?_
          cases hb : a_dp (aT A k) i with
          | true =>
            rw [hb, if_pos rfl] at ih
            exact ⟨fun h => absurd h (by decide), fun _ => ih _ _ ⟨rfl, rfl⟩⟩
          | false =>
            rw [hb, if_neg (by decide)] at ih
            exact ⟨fun _ => ih _ _ ⟨rfl, rfl⟩, fun h => absurd rfl h⟩
        · rintro L G' ⟨rfl, rfl⟩
          refine mg_go [114] 60 114 ms_261 ?_
          repeat (first | refine ⟨_, mg_Fs rfl rfl, ?_⟩ | refine ⟨_, mg_Fd rfl rfl, ?_⟩ | refine ⟨Or.inl rfl, ?_⟩ | refine ⟨Or.inr ⟨_, rfl⟩, ?_⟩ | refine ⟨fun _ => ?_, fun h => absurd h (by decide)⟩ | refine ⟨fun h => absurd h (by decide), fun _ => ?_⟩)
          refine mg_cv (r179n d hI3.f) (by omega) ?_
          exact ⟨fun _ => ⟨Or.inl rfl, rfl, rfl, rX.rf _⟩, fun h => absurd h (Int32.not_lt.mpr (Int32.le_refl _))⟩
      · refine mg_me [114] 160 my_261 ms_261 (Nat.le_of_ble_eq_true rfl) ?_
        repeat (first | refine ⟨_, mg_Fs rfl rfl, ?_⟩ | refine ⟨_, mg_Fd rfl rfl, ?_⟩ | refine ⟨Or.inl rfl, ?_⟩ | refine ⟨Or.inr ⟨_, rfl⟩, ?_⟩ | refine ⟨fun _ => ?_, fun h => absurd h (by decide)⟩ | refine ⟨fun h => absurd h (by decide), fun _ => ?_⟩)
        refine mg_cv (r180y d hI hv) (by omega) ?_
        repeat (first | refine ⟨_, mg_Fs rfl rfl, ?_⟩ | refine ⟨_, mg_Fd rfl rfl, ?_⟩ | refine ⟨Or.inl rfl, ?_⟩ | refine ⟨Or.inr ⟨_, rfl⟩, ?_⟩ | refine ⟨fun _ => ?_, fun h => absurd h (by decide)⟩ | refine ⟨fun h => absurd h (by decide), fun _ => ?_⟩)
        refine mg_cv (r177y d hw (by decide) (by decide)) (by omega) ?_
        repeat (first | refine ⟨_, mg_Fs rfl rfl, ?_⟩ | refine ⟨_, mg_Fd rfl rfl, ?_⟩ | refine ⟨Or.inl rfl, ?_⟩ | refine ⟨Or.inr ⟨_, rfl⟩, ?_⟩ | refine ⟨fun _ => ?_, fun h => absurd h (by decide)⟩ | refine ⟨fun h => absurd h (by decide), fun _ => ?_⟩)
        refine mg_cv (r176_0 d) (by omega) ?_
        repeat (first | refine ⟨_, mg_Fs rfl rfl, ?_⟩ | refine ⟨_, mg_Fd rfl rfl, ?_⟩ | refine ⟨Or.inl rfl, ?_⟩ | refine ⟨Or.inr ⟨_, rfl⟩, ?_⟩ | refine ⟨fun _ => ?_, fun h => absurd h (by decide)⟩ | refine ⟨fun h => absurd h (by decide), fun _ => ?_⟩)
        refine ⟨by decide, fun _ => ?_, fun h => absurd h (by decide), fun h => absurd h (by decide), fun h => absurd h (by decide), fun h => absurd h (by decide), fun h => absurd h (by decide), trivial⟩
        repeat (first | refine ⟨_, mg_Fs rfl rfl, ?_⟩ | refine ⟨_, mg_Fd rfl rfl, ?_⟩ | refine ⟨Or.inl rfl, ?_⟩ | refine ⟨Or.inr ⟨_, rfl⟩, ?_⟩ | refine ⟨fun _ => ?_, fun h => absurd h (by decide)⟩ | refine ⟨fun h => absurd h (by decide), fun _ => ?_⟩)
        refine ⟨_, _, 26 + 8 * i, mg_Ai rfl (by decide), mg_ixE (by rw [Int32.ofNat_add, Int32.ofNat_mul]; rfl) (by omega), by omega, Or.inl rfl, rfl, ?_, rX.rf _⟩
        rw [show (mg_sF G 148 10 (.int 0)).1 149 (26 + 8 * i) = _ from (hI.vn hi).1]
        rfl
theorem r304 (d : Nat) (hI : rI G A) (l : Int32) : mg_m (mg_KM scr t) (d + aV A + 8) 304 [.ref 148, .int l] G (rQ G (q304 A l)) := by
  have h8 := hI.v8
  have hI3 : rI (mg_sF G 148 10 (.int 0)) A := hI
  unfold q304
  cases hv : vi l (aV A) with
  | none =>
    rw [qV_x hv]
    refine mg_me [] 90 my_304 ms_304 (Nat.le_of_ble_eq_true rfl) ?_
    repeat (first | refine ⟨_, mg_Fs rfl rfl, ?_⟩ | refine ⟨_, mg_Fd rfl rfl, ?_⟩ | refine ⟨Or.inl rfl, ?_⟩ | refine ⟨Or.inr ⟨_, rfl⟩, ?_⟩ | refine ⟨fun _ => ?_, fun h => absurd h (by decide)⟩ | refine ⟨fun h => absurd h (by decide), fun _ => ?_⟩)
    refine mg_cv (r182x d hI hv) (by omega) ?_
    repeat (first | refine ⟨_, mg_Fs rfl rfl, ?_⟩ | refine ⟨_, mg_Fd rfl rfl, ?_⟩ | refine ⟨Or.inl rfl, ?_⟩ | refine ⟨Or.inr ⟨_, rfl⟩, ?_⟩ | refine ⟨fun _ => ?_, fun h => absurd h (by decide)⟩ | refine ⟨fun h => absurd h (by decide), fun _ => ?_⟩)
    refine mg_cv (r176_1 d _ _) (by omega) ?_
    repeat (first | refine ⟨_, mg_Fs rfl rfl, ?_⟩ | refine ⟨_, mg_Fd rfl rfl, ?_⟩ | refine ⟨Or.inl rfl, ?_⟩ | refine ⟨Or.inr ⟨_, rfl⟩, ?_⟩ | refine ⟨fun _ => ?_, fun h => absurd h (by decide)⟩ | refine ⟨fun h => absurd h (by decide), fun _ => ?_⟩)
    exact ⟨rfl, rfl, rX.rf _⟩
  | some i =>
    obtain ⟨rfl, hi⟩ := vi_s hv
    rw [qV_y hv]
    refine mg_me [] 90 my_304 ms_304 (Nat.le_of_ble_eq_true rfl) ?_
    repeat (first | refine ⟨_, mg_Fs rfl rfl, ?_⟩ | refine ⟨_, mg_Fd rfl rfl, ?_⟩ | refine ⟨Or.inl rfl, ?_⟩ | refine ⟨Or.inr ⟨_, rfl⟩, ?_⟩ | refine ⟨fun _ => ?_, fun h => absurd h (by decide)⟩ | refine ⟨fun h => absurd h (by decide), fun _ => ?_⟩)
    refine mg_cv (r182y d hI hv) (by omega) ?_
    repeat (first | refine ⟨_, mg_Fs rfl rfl, ?_⟩ | refine ⟨_, mg_Fd rfl rfl, ?_⟩ | refine ⟨Or.inl rfl, ?_⟩ | refine ⟨Or.inr ⟨_, rfl⟩, ?_⟩ | refine ⟨fun _ => ?_, fun h => absurd h (by decide)⟩ | refine ⟨fun h => absurd h (by decide), fun _ => ?_⟩)
    refine mg_cv (r176_0 d) (by omega) ?_
    repeat (first | refine ⟨_, mg_Fs rfl rfl, ?_⟩ | refine ⟨_, mg_Fd rfl rfl, ?_⟩ | refine ⟨Or.inl rfl, ?_⟩ | refine ⟨Or.inr ⟨_, rfl⟩, ?_⟩ | refine ⟨fun _ => ?_, fun h => absurd h (by decide)⟩ | refine ⟨fun h => absurd h (by decide), fun _ => ?_⟩)
    refine mg_m_mono (r201A d hI3) (by omega) ?_
    rintro o q G1 ⟨rfl, rfl, hX, hgr, hg, hr, -⟩
    have hI4 := hX.I hI3
    repeat (first | refine ⟨_, mg_Fs rfl rfl, ?_⟩ | refine ⟨_, mg_Fd rfl rfl, ?_⟩ | refine ⟨Or.inl rfl, ?_⟩ | refine ⟨Or.inr ⟨_, rfl⟩, ?_⟩ | refine ⟨fun _ => ?_, fun h => absurd h (by decide)⟩ | refine ⟨fun h => absurd h (by decide), fun _ => ?_⟩)
    refine ⟨_, _, 2 + i, mg_Ai rfl (by decide), mg_ixE (by rw [Int32.ofNat_add]; rfl) (by omega), by omega, ?_⟩
    rw [hI4.o hi]
    repeat (first | refine ⟨_, mg_Fs rfl rfl, ?_⟩ | refine ⟨_, mg_Fd rfl rfl, ?_⟩ | refine ⟨Or.inl rfl, ?_⟩ | refine ⟨Or.inr ⟨_, rfl⟩, ?_⟩ | refine ⟨fun _ => ?_, fun h => absurd h (by decide)⟩ | refine ⟨fun h => absurd h (by decide), fun _ => ?_⟩)
    refine mg_cv (r257A d hgr hg hI.W.o8 (hI.W.o8 i hi)) (by omega) ?_
    repeat (first | refine ⟨_, mg_Fs rfl rfl, ?_⟩ | refine ⟨_, mg_Fd rfl rfl, ?_⟩ | refine ⟨Or.inl rfl, ?_⟩ | refine ⟨Or.inr ⟨_, rfl⟩, ?_⟩ | refine ⟨fun _ => ?_, fun h => absurd h (by decide)⟩ | refine ⟨fun h => absurd h (by decide), fun _ => ?_⟩)
    exact ⟨rfl, rfl, hX⟩
theorem r290 (d : Nat) (hI : rI G A) (f g : Int32) : mg_m (mg_KM scr t) (d + aV A + 8) 290 [.ref 148, .int f, .int g] G (rQ G (q290 A f g)) := by
  have h8 := hI.v8
  have h12 := hI.f12
  have hp := mg_p256 h8
  unfold q290
  cases hf : vi f (aF A) with
  | none =>
    rw [qF_x hf]
    refine mg_me [] 120 my_290 ms_290 (Nat.le_of_ble_eq_true rfl) ?_
    repeat (first | refine ⟨_, mg_Fs rfl rfl, ?_⟩ | refine ⟨_, mg_Fd rfl rfl, ?_⟩ | refine ⟨Or.inl rfl, ?_⟩ | refine ⟨Or.inr ⟨_, rfl⟩, ?_⟩ | refine ⟨fun _ => ?_, fun h => absurd h (by decide)⟩ | refine ⟨fun h => absurd h (by decide), fun _ => ?_⟩)
    refine mg_cv (r181x d hI hf) (by omega) ?_
    repeat (first | refine ⟨_, mg_Fs rfl rfl, ?_⟩ | refine ⟨_, mg_Fd rfl rfl, ?_⟩ | refine ⟨Or.inl rfl, ?_⟩ | refine ⟨Or.inr ⟨_, rfl⟩, ?_⟩ | refine ⟨fun _ => ?_, fun h => absurd h (by decide)⟩ | refine ⟨fun h => absurd h (by decide), fun _ => ?_⟩)
    refine mg_cv (r176_1 d _ _) (by omega) ?_
    repeat (first | refine ⟨_, mg_Fs rfl rfl, ?_⟩ | refine ⟨_, mg_Fd rfl rfl, ?_⟩ | refine ⟨Or.inl rfl, ?_⟩ | refine ⟨Or.inr ⟨_, rfl⟩, ?_⟩ | refine ⟨fun _ => ?_, fun h => absurd h (by decide)⟩ | refine ⟨fun h => absurd h (by decide), fun _ => ?_⟩)
    exact ⟨rfl, rfl, rX.rf _⟩
  | some i =>
    obtain ⟨rfl, hi⟩ := vi_s hf
    rw [qF_y hf]
    cases hg : vi g (aF A) with
    | none =>
      rw [qF_x hg]
      refine mg_me [] 120 my_290 ms_290 (Nat.le_of_ble_eq_true rfl) ?_
      repeat (first | refine ⟨_, mg_Fs rfl rfl, ?_⟩ | refine ⟨_, mg_Fd rfl rfl, ?_⟩ | refine ⟨Or.inl rfl, ?_⟩ | refine ⟨Or.inr ⟨_, rfl⟩, ?_⟩ | refine ⟨fun _ => ?_, fun h => absurd h (by decide)⟩ | refine ⟨fun h => absurd h (by decide), fun _ => ?_⟩)
      refine mg_cv (r181y d hI hf) (by omega) ?_
      repeat (first | refine ⟨_, mg_Fs rfl rfl, ?_⟩ | refine ⟨_, mg_Fd rfl rfl, ?_⟩ | refine ⟨Or.inl rfl, ?_⟩ | refine ⟨Or.inr ⟨_, rfl⟩, ?_⟩ | refine ⟨fun _ => ?_, fun h => absurd h (by decide)⟩ | refine ⟨fun h => absurd h (by decide), fun _ => ?_⟩)
      refine mg_cv (r181x d hI hg) (by omega) ?_
      repeat (first | refine ⟨_, mg_Fs rfl rfl, ?_⟩ | refine ⟨_, mg_Fd rfl rfl, ?_⟩ | refine ⟨Or.inl rfl, ?_⟩ | refine ⟨Or.inr ⟨_, rfl⟩, ?_⟩ | refine ⟨fun _ => ?_, fun h => absurd h (by decide)⟩ | refine ⟨fun h => absurd h (by decide), fun _ => ?_⟩)
      refine mg_cv (r176_1 d _ _) (by omega) ?_
      repeat (first | refine ⟨_, mg_Fs rfl rfl, ?_⟩ | refine ⟨_, mg_Fd rfl rfl, ?_⟩ | refine ⟨Or.inl rfl, ?_⟩ | refine ⟨Or.inr ⟨_, rfl⟩, ?_⟩ | refine ⟨fun _ => ?_, fun h => absurd h (by decide)⟩ | refine ⟨fun h => absurd h (by decide), fun _ => ?_⟩)
      exact ⟨rfl, rfl, rX.rf _⟩
    | some j =>
      obtain ⟨rfl, hj⟩ := vi_s hg
      rw [qF_y hg]
      refine mg_me [60] 120 my_290 ms_290 (Nat.le_of_ble_eq_true rfl) ?_
      repeat (first | refine ⟨_, mg_Fs rfl rfl, ?_⟩ | refine ⟨_, mg_Fd rfl rfl, ?_⟩ | refine ⟨Or.inl rfl, ?_⟩ | refine ⟨Or.inr ⟨_, rfl⟩, ?_⟩ | refine ⟨fun _ => ?_, fun h => absurd h (by decide)⟩ | refine ⟨fun h => absurd h (by decide), fun _ => ?_⟩)
      refine mg_cv (r181y d hI hf) (by omega) ?_
      repeat (first | refine ⟨_, mg_Fs rfl rfl, ?_⟩ | refine ⟨_, mg_Fd rfl rfl, ?_⟩ | refine ⟨Or.inl rfl, ?_⟩ | refine ⟨Or.inr ⟨_, rfl⟩, ?_⟩ | refine ⟨fun _ => ?_, fun h => absurd h (by decide)⟩ | refine ⟨fun h => absurd h (by decide), fun _ => ?_⟩)
      refine mg_cv (r181y d hI hg) (by omega) ?_
      repeat (first | refine ⟨_, mg_Fs rfl rfl, ?_⟩ | refine ⟨_, mg_Fd rfl rfl, ?_⟩ | refine ⟨Or.inl rfl, ?_⟩ | refine ⟨Or.inr ⟨_, rfl⟩, ?_⟩ | refine ⟨fun _ => ?_, fun h => absurd h (by decide)⟩ | refine ⟨fun h => absurd h (by decide), fun _ => ?_⟩)
      refine mg_cv (r176_0 d) (by omega) ?_
      have hI3 : rI (mg_sF G 148 10 (.int 0)) A := hI
      repeat (first | refine ⟨_, mg_Fs rfl rfl, ?_⟩ | refine ⟨_, mg_Fd rfl rfl, ?_⟩ | refine ⟨Or.inl rfl, ?_⟩ | refine ⟨Or.inr ⟨_, rfl⟩, ?_⟩ | refine ⟨fun _ => ?_, fun h => absurd h (by decide)⟩ | refine ⟨fun h => absurd h (by decide), fun _ => ?_⟩)
      refine mg_m_mono (r201A d hI3) (by omega) ?_
      rintro o q G1 ⟨rfl, rfl, hX, hgr, hg, hr, -⟩
      obtain ⟨e1, e2⟩ := hr i hi
      obtain ⟨e3, e4⟩ := hr j hj
      have h9 := hg.2.1
      have h0 := hg.1
      repeat (first | refine ⟨_, mg_Fs rfl rfl, ?_⟩ | refine ⟨_, mg_Fd rfl rfl, ?_⟩ | refine ⟨Or.inl rfl, ?_⟩ | refine ⟨Or.inr ⟨_, rfl⟩, ?_⟩ | refine ⟨fun _ => ?_, fun h => absurd h (by decide)⟩ | refine ⟨fun h => absurd h (by decide), fun _ => ?_⟩)
      refine mg_m_mono (r203 hgr hg 162 (Or.inl rfl) d i _ (by omega) e1 e2) (by omega) ?_
      rintro o q G2 ⟨rfl, rfl, f1, rfl, hf1⟩
      have hgr2 : rGr (gM G1 162 f1) (aD A) (aG A) := hgr.u f1 (by decide)
      repeat (first | refine ⟨_, mg_Fs rfl rfl, ?_⟩ | refine ⟨_, mg_Fd rfl rfl, ?_⟩ | refine ⟨Or.inl rfl, ?_⟩ | refine ⟨Or.inr ⟨_, rfl⟩, ?_⟩ | refine ⟨fun _ => ?_, fun h => absurd h (by decide)⟩ | refine ⟨fun h => absurd h (by decide), fun _ => ?_⟩)
      refine mg_m_mono (r203 hgr2 hg 163 (Or.inr rfl) d j _ (by omega) e3 e4) (by omega) ?_
      rintro o q G2 ⟨rfl, rfl, f2, rfl, hf2⟩
      repeat (first | refine ⟨_, mg_Fs rfl rfl, ?_⟩ | refine ⟨_, mg_Fd rfl rfl, ?_⟩ | refine ⟨Or.inl rfl, ?_⟩ | refine ⟨Or.inr ⟨_, rfl⟩, ?_⟩ | refine ⟨fun _ => ?_, fun h => absurd h (by decide)⟩ | refine ⟨fun h => absurd h (by decide), fun _ => ?_⟩)
      refine mg_loop (gN (aG A) - 2) (fun k L G' => L = [some (.ref 148), some (.int (Int32.ofNat i)), some (.int (Int32.ofNat j)), some (.int (a_sum (fun i2 => b2 (g_rc (aG A) (aV A) (aR A i) (i2 + 2) && g_rc (aG A) (aV A) (aR A j) (i2 + 2))) k)), some (.int (Int32.ofNat (k + 2)))] ∧ G' = gM (gM G1 162 f1) 163 f2) ?_ ?_ _ _ ⟨rfl, rfl⟩
      · rintro k L G' hk ⟨rfl, rfl⟩ ih
        have es : a_sum (fun i2 => b2 (g_rc (aG A) (aV A) (aR A i) (i2 + 2) && g_rc (aG A) (aV A) (aR A j) (i2 + 2))) (k + 1) = a_sum (fun i2 => b2 (g_rc (aG A) (aV A) (aR A i) (i2 + 2) && g_rc (aG A) (aV A) (aR A j) (i2 + 2))) k + b2 (g_rc (aG A) (aV A) (aR A i) (k + 2) && g_rc (aG A) (aV A) (aR A j) (k + 2)) := rfl
        rw [es, ← mg_inc (k + 2)] at ih
        have hA1 : mg_A (mg_KM scr t) (gM (gM G1 162 f1) 163 f2) 162 3 1000 (.inl f1) := by
          have := mg_Az (K := mg_KM scr t) (G := gM (gM G1 162 f1) 163 f2) (a := 162) (n := 1000) rfl (by decide)
          rwa [show (gM (gM G1 162 f1) 163 f2).1 162 = f1 from show mg_u (mg_u G1.1 162 f1) 163 f2 162 = f1 from (mg_u_ne _ _ (show (162 : Nat) ≠ 163 by decide)).trans (mg_u_eq _ _ _)] at this
        refine mg_go [60] 60 60 ms_290 ?_
        refine ⟨_, mg_Fe hgr.1 rfl rfl, fun h => absurd h (mg_nle (by omega) (by omega)), fun _ => ?_⟩
        repeat (first | refine ⟨_, mg_Fs rfl rfl, ?_⟩ | refine ⟨_, mg_Fd rfl rfl, ?_⟩ | refine ⟨Or.inl rfl, ?_⟩ | refine ⟨Or.inr ⟨_, rfl⟩, ?_⟩ | refine ⟨fun _ => ?_, fun h => absurd h (by decide)⟩ | refine ⟨fun h => absurd h (by decide), fun _ => ?_⟩)
        refine ⟨3, 1000, f1, k + 2, hA1, Or.inr rfl, mg_ixN (by omega), by omega, ?_⟩
        rw [hf1 (k + 2) (by omega)]
        cases b1 : g_rc (aG A) (aV A) (aR A i) (k + 2) with
        | false =>
          rw [b1] at ih
          exact ⟨fun _ => ih _ _ ⟨rfl, rfl⟩, fun h => absurd rfl h⟩
        | true =>
          rw [b1, Bool.true_and] at ih
          refine ⟨fun h => absurd h (by decide), fun _ => ?_⟩
          repeat (first | refine ⟨_, mg_Fs rfl rfl, ?_⟩ | refine ⟨_, mg_Fd rfl rfl, ?_⟩ | refine ⟨Or.inl rfl, ?_⟩ | refine ⟨Or.inr ⟨_, rfl⟩, ?_⟩ | refine ⟨fun _ => ?_, fun h => absurd h (by decide)⟩ | refine ⟨fun h => absurd h (by decide), fun _ => ?_⟩)
          refine ⟨3, 1000, f2, k + 2, gM_A _ f2 rfl (by decide), Or.inr rfl, mg_ixN (by omega), by omega, ?_⟩
          rw [hf2 (k + 2) (by omega)]
          cases b3 : g_rc (aG A) (aV A) (aR A j) (k + 2) with
          | false =>
            rw [b3] at ih
            exact ⟨fun _ => ih _ _ ⟨rfl, rfl⟩, fun h => absurd rfl h⟩
          | true =>
            rw [b3] at ih
            exact ⟨fun h => absurd h (by decide), fun _ => ih _ _ ⟨rfl, rfl⟩⟩
      · rintro L G' ⟨rfl, rfl⟩
        refine mg_go [60] 60 60 ms_290 ?_
        refine ⟨_, mg_Fe hgr.1 rfl rfl, fun _ => ⟨Or.inl rfl, rfl, rfl, (hX.u f1 (by decide)).u f2 (by decide)⟩, fun h => ?_⟩
        have := (mg_ltN (by omega) (by omega)).mp h
        omega
end RM
