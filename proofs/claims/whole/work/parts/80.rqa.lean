/-! REFERENCE: the state that stands; numbers that name something -/
def rNm (G : mg_G) (p : Nat) (l : List Nat) : Prop := G.1 149 p = Int32.ofNat l.length ∧ ∀ i c, l[i]? = some c → G.1 149 (p + 1 + i) = Int32.ofNat c
def bA (G : mg_G) (p q : Nat) (A : a_A) : Prop := G.1 149 p = Int32.ofNat (aV A) ∧ G.1 149 (p + 1) = Int32.ofNat (aF A) ∧ (∀ j, j < aV A → G.1 149 (p + 2 + j) = Int32.ofNat (aD A j)) ∧ (∀ v, v < aV A → G.1 149 (p + 10 + v) = aC A v) ∧ (∀ v, v < aV A → G.1 149 (p + 18 + v) = aP A v) ∧ (∀ v, v < aV A → rNm G (p + 26 + 8 * v) (aVN A v)) ∧ (∀ f, f < aF A → rNm G (p + 90 + 8 * f) (aFN A f)) ∧ ∀ f, f < aF A → ((G.2.1 150 (q + 4 * f), G.2.1 150 (q + 4 * f + 1), G.2.1 150 (q + 4 * f + 2), G.2.1 150 (q + 4 * f + 3)) : a_T) = aT A f
def rI (G : mg_G) (A : a_A) : Prop := (∀ v, v < 6 → G.2.1 154 v = a_m v) ∧ bA G 0 0 A ∧ aW A
theorem a_sum_c {f g : Nat → Int32} {n : Nat} (h : ∀ k, k < n → f k = g k) : a_sum f n = a_sum g n := by
  induction n with
  | zero => rfl
  | succ n ih =>
    show a_sum f n + f n = a_sum g n + g n
    rw [ih (fun k hk => h k (by omega)), h n (by omega)]
section RI
variable {G : mg_G} {A : a_A}
theorem rI.v (h : rI G A) : G.1 149 0 = Int32.ofNat (aV A) := h.2.1.1
theorem rI.f (h : rI G A) : G.1 149 1 = Int32.ofNat (aF A) := h.2.1.2.1
theorem rI.o (h : rI G A) {j : Nat} (hj : j < aV A) : G.1 149 (2 + j) = Int32.ofNat (aD A j) := by
  have := h.2.1.2.2.1 j hj
  rwa [Nat.zero_add] at this
theorem rI.c (h : rI G A) {j : Nat} (hj : j < aV A) : G.1 149 (10 + j) = aC A j := by
  have := h.2.1.2.2.2.1 j hj
  rwa [Nat.zero_add] at this
theorem rI.p (h : rI G A) {j : Nat} (hj : j < aV A) : G.1 149 (18 + j) = aP A j := by
  have := h.2.1.2.2.2.2.1 j hj
  rwa [Nat.zero_add] at this
theorem rI.vn (h : rI G A) {j : Nat} (hj : j < aV A) : rNm G (26 + 8 * j) (aVN A j) := by
  have := h.2.1.2.2.2.2.2.1 j hj
  rwa [Nat.zero_add] at this
theorem rI.fn (h : rI G A) {j : Nat} (hj : j < aF A) : rNm G (90 + 8 * j) (aFN A j) := by
  have := h.2.1.2.2.2.2.2.2.1 j hj
  rwa [Nat.zero_add] at this
theorem rI.t (h : rI G A) {j : Nat} (hj : j < aF A) : a_tb G j = aT A j := by
  have := h.2.1.2.2.2.2.2.2.2 j hj
  rwa [Nat.zero_add] at this
theorem rI.W (h : rI G A) : aW A := h.2.2
theorem rI.v8 (h : rI G A) : aV A < 9 := Nat.lt_succ_of_le h.2.2.2.1.2.2.2
theorem rI.f12 (h : rI G A) : aF A ≤ 12 := h.2.2.2.2.1
theorem rI.dp (h : rI G A) {f v : Nat} (hf : f < aF A) (hv : v < 8) : a_dep (G.2.1 154) (a_tb G f) v = a_dp (aT A f) v := by rw [h.t hf, a_dep_m h.1 _ v hv]
end RI
def vi (v : Int32) (n : Nat) : Option Nat := if 0 ≤ v.toInt ∧ v.toInt < n then some v.toInt.toNat else none
theorem vi_s {v : Int32} {n k : Nat} (h : vi v n = some k) : v = Int32.ofNat k ∧ k < n := by
  unfold vi at h
  split at h
  · rename_i h2
    have e : v.toInt.toNat = k := Option.some.inj h
    have h3 := Int32.toInt_lt v
    refine ⟨Int32.toInt_inj.mp ?_, by omega⟩
    rw [Int32.toInt_ofNat_of_lt (by omega)]
    omega
  · cases h
theorem vi_n {v : Int32} {n : Nat} (h : vi v n = none) (hn : n < 2147483648) : v < 0 ∨ Int32.ofNat n ≤ v := by
  unfold vi at h
  split at h
  · cases h
  · rename_i h2
    by_cases h3 : 0 ≤ v.toInt
    · refine Or.inr (Int32.le_iff_toInt_le.mpr ?_)
      rw [Int32.toInt_ofNat_of_lt hn]
      omega
    · refine Or.inl (Int32.lt_iff_toInt_lt.mpr ?_)
      rw [show (0 : Int32).toInt = 0 from by decide]
      omega
theorem vi_of {n k : Nat} (h : k < n) (hn : n < 2147483648) : vi (Int32.ofNat k) n = some k := by
  unfold vi
  rw [Int32.toInt_ofNat_of_lt (by omega), if_pos (by omega)]
  rfl
theorem mg_pre {n : Nat} (hn : n < 2147483648) : (Int32.ofNat n - 1).toInt = (n : Int) - 1 := by
  cases n with
  | zero => decide
  | succ n =>
    rw [show Int32.ofNat (n + 1) - 1 = Int32.ofNat n from mg_dec n, Int32.toInt_ofNat_of_lt (by omega)]
    omega
theorem vi_in {v : Int32} {n : Nat} (hn : n < 2147483648) : (0 ≤ v ∧ v ≤ Int32.ofNat n - 1) ↔ (vi v n).isSome = true := by
  unfold vi
  rw [Int32.le_iff_toInt_le, Int32.le_iff_toInt_le, mg_pre hn, show (0 : Int32).toInt = 0 from by decide]
  by_cases h : 0 ≤ v.toInt ∧ v.toInt < n
  · rw [if_pos h]
    exact ⟨fun _ => rfl, fun _ => by omega⟩
  · rw [if_neg h]
    exact ⟨fun q => absurd (by omega) h, fun q => absurd q (by decide)⟩
theorem vi_y {v : Int32} {n k : Nat} (h : vi v n = some k) (hn : n < 2147483648) : a_in v 0 (Int32.ofNat n - 1) = 1 := by
  unfold a_in
  rw [if_pos ((vi_in hn).mpr (by rw [h]; rfl))]
theorem vi_x {v : Int32} {n : Nat} (h : vi v n = none) (hn : n < 2147483648) : a_in v 0 (Int32.ofNat n - 1) = 0 := by
  unfold a_in
  rw [if_neg (fun q => by
    have := (vi_in hn).mp q
    rw [h] at this
    cases this)]
section RM
variable {scr : Nat × (Nat → Int32)} {t : List mg_S} {G : mg_G} {A : a_A}
theorem r176_1 (d : Nat) (b c : Int32) : mg_m (mg_KM scr t) (d + 1) 176 [.ref 148, .int 1, .int b, .int c] G (mg_v (.int 1) (mg_sF G 148 10 (.int 1))) := r176 d 1 b c G
theorem r176_2 (d : Nat) (c : Int32) : mg_m (mg_KM scr t) (d + 1) 176 [.ref 148, .int 0, .int 1, .int c] G (mg_v (.int 1) (mg_sF G 148 10 (.int 2))) := r176 d 0 1 c G
theorem r176_3 (d : Nat) : mg_m (mg_KM scr t) (d + 1) 176 [.ref 148, .int 0, .int 0, .int 1] G (mg_v (.int 1) (mg_sF G 148 10 (.int 3))) := r176 d 0 0 1 G
theorem r176_0 (d : Nat) : mg_m (mg_KM scr t) (d + 1) 176 [.ref 148, .int 0, .int 0, .int 0] G (mg_v (.int 0) (mg_sF G 148 10 (.int 0))) := r176 d 0 0 0 G
theorem r177y {K : mg_K} (d : Nat) {v hi : Int32} {n k : Nat} (h : vi v n = some k) (e : hi = Int32.ofNat n - 1) (hn : n < 2147483648) : mg_m K (d + 1) 177 [.int v, .int 0, .int hi] G (mg_v (.int 1) G) := by
  have := r177 (K := K) d v 0 hi G
  rw [if_pos (by rw [e]; exact (vi_in hn).mpr (by rw [h]; rfl))] at this
  exact this
theorem r177x {K : mg_K} (d : Nat) {v hi : Int32} {n : Nat} (h : vi v n = none) (e : hi = Int32.ofNat n - 1) (hn : n < 2147483648) : mg_m K (d + 1) 177 [.int v, .int 0, .int hi] G (mg_v (.int 0) G) := by
  have := r177 (K := K) d v 0 hi G
  rw [if_neg (by
    rw [e]
    intro q
    have := (vi_in hn).mp q
    rw [h] at this
    cases this)] at this
  exact this
theorem r180y (d : Nat) (hI : rI G A) {v : Int32} {k : Nat} (h : vi v (aV A) = some k) : mg_m (mg_KM scr t) (d + 2) 180 [.ref 148, .int v] G (mg_v (.int 1) G) := by
  have := r180 (scr := scr) (t := t) d v G
  rw [hI.v, vi_y h (by have := hI.v8; omega)] at this
  exact this
theorem r180x (d : Nat) (hI : rI G A) {v : Int32} (h : vi v (aV A) = none) : mg_m (mg_KM scr t) (d + 2) 180 [.ref 148, .int v] G (mg_v (.int 0) G) := by
  have := r180 (scr := scr) (t := t) d v G
  rw [hI.v, vi_x h (by have := hI.v8; omega)] at this
  exact this
theorem r182y (d : Nat) (hI : rI G A) {v : Int32} {k : Nat} (h : vi v (aV A) = some k) : mg_m (mg_KM scr t) (d + 2) 182 [.ref 148, .int v] G (mg_v (.int 1) G) := by
  have := r182 (scr := scr) (t := t) d v G
  rw [hI.v, vi_y h (by have := hI.v8; omega)] at this
  exact this
theorem r182x (d : Nat) (hI : rI G A) {v : Int32} (h : vi v (aV A) = none) : mg_m (mg_KM scr t) (d + 2) 182 [.ref 148, .int v] G (mg_v (.int 0) G) := by
  have := r182 (scr := scr) (t := t) d v G
  rw [hI.v, vi_x h (by have := hI.v8; omega)] at this
  exact this
theorem r181y (d : Nat) (hI : rI G A) {v : Int32} {k : Nat} (h : vi v (aF A) = some k) : mg_m (mg_KM scr t) (d + 2) 181 [.ref 148, .int v] G (mg_v (.int 1) G) := by
  have := r181 (scr := scr) (t := t) d v G
  rw [hI.f, vi_y h (by have := hI.f12; omega)] at this
  exact this
theorem r181x (d : Nat) (hI : rI G A) {v : Int32} (h : vi v (aF A) = none) : mg_m (mg_KM scr t) (d + 2) 181 [.ref 148, .int v] G (mg_v (.int 0) G) := by
  have := r181 (scr := scr) (t := t) d v G
  rw [hI.f, vi_x h (by have := hI.f12; omega)] at this
  exact this
theorem r192A (d : Nat) (hI : rI G A) {f k : Nat} (hf : f < aF A) (hk : k < 2 ^ aV A) : mg_m (mg_KM scr t) (d + 2) 192 [.ref 148, .int (Int32.ofNat f), .int (Int32.ofNat k)] G (mg_v (.int (a_atI (aT A f) k)) G) := by
  have h1 := hI.f12
  have h2 := hI.v8
  have h3 : 2 ^ aV A ≤ 256 := Nat.pow_le_pow_right (by decide) (show aV A ≤ 8 by omega)
  have := r192 (scr := scr) (t := t) d f k (by omega) (by omega) G
  rw [hI.t hf] at this
  exact this
end RM
/-! what is asked (pure): what is thrown (0: nothing), and the answer -/
abbrev qR : Type := Int32 × Int32
def qF (A : a_A) (f : Int32) (k : Nat → qR) : qR := match vi f (aF A) with
  | none => (1, 0)
  | some f => k f
def qV (A : a_A) (v : Int32) (k : Nat → qR) : qR := match vi v (aV A) with
  | none => (1, 0)
  | some v => k v
theorem qF_y {A : a_A} {f : Int32} {k : Nat → qR} {i : Nat} (h : vi f (aF A) = some i) : qF A f k = k i := by unfold qF; rw [h]
theorem qF_x {A : a_A} {f : Int32} {k : Nat → qR} (h : vi f (aF A) = none) : qF A f k = (1, 0) := by unfold qF; rw [h]
theorem qV_y {A : a_A} {f : Int32} {k : Nat → qR} {i : Nat} (h : vi f (aV A) = some i) : qV A f k = k i := by unfold qV; rw [h]
theorem qV_x {A : a_A} {f : Int32} {k : Nat → qR} (h : vi f (aV A) = none) : qV A f k = (1, 0) := by unfold qV; rw [h]
def q268 (A : a_A) (f x : Int32) : qR := qF A f fun f => match vi x (2 ^ aV A) with
  | none => (2, 0)
  | some x => (0, a_atI (aT A f) x)
def a_sup (A : a_A) (f : Nat) : Int32 := a_sum (fun v => if a_dp (aT A f) v then (1 : Int32) <<< (Int32.ofNat v &&& 31) else 0) (aV A)
def q271 (A : a_A) (f : Int32) : qR := qF A f fun f => (0, a_sup A f)
def q262 (A : a_A) (v : Int32) : qR := qV A v fun v => (0, Int32.ofNat (aD A v))
def q286 (A : a_A) (f g : Int32) : qR := qF A f fun f => qF A g fun g => (0, if aT A f = aT A g then 1 else 0)
section RM
variable {scr : Nat × (Nat → Int32)} {t : List mg_S} {G : mg_G} {A : a_A}
theorem mg_p256 {n : Nat} (h : n < 9) : 2 ^ n ≤ 256 := Nat.pow_le_pow_right (by decide) (show n ≤ 8 by omega)
theorem r268 (d : Nat) (hI : rI G A) (f x : Int32) : mg_m (mg_KM scr t) (d + 4) 268 [.ref 148, .int f, .int x] G (mg_v (.int (q268 A f x).2) (mg_sF G 148 10 (.int (q268 A f x).1))) := by
  have h8 := hI.v8
  have hp := mg_p256 h8
  unfold q268
  cases hf : vi f (aF A) with
  | none =>
    rw [qF_x hf]
    refine mg_me [] 90 my_268 ms_268 (Nat.le_of_ble_eq_true rfl) ?_
    repeat (first | refine ⟨_, mg_Fs rfl rfl, ?_⟩ | refine ⟨_, mg_Fd rfl rfl, ?_⟩ | refine ⟨Or.inl rfl, ?_⟩ | refine ⟨Or.inr ⟨_, rfl⟩, ?_⟩ | refine ⟨fun _ => ?_, fun h => absurd h (by decide)⟩ | refine ⟨fun h => absurd h (by decide), fun _ => ?_⟩)
    refine mg_cv (r181x d hI hf) (by omega) ?_
    repeat (first | refine ⟨_, mg_Fs rfl rfl, ?_⟩ | refine ⟨_, mg_Fd rfl rfl, ?_⟩ | refine ⟨Or.inl rfl, ?_⟩ | refine ⟨Or.inr ⟨_, rfl⟩, ?_⟩ | refine ⟨fun _ => ?_, fun h => absurd h (by decide)⟩ | refine ⟨fun h => absurd h (by decide), fun _ => ?_⟩)
    refine mg_cv (r183n d hI.v h8) (by omega) ?_
    repeat (first | refine ⟨_, mg_Fs rfl rfl, ?_⟩ | refine ⟨_, mg_Fd rfl rfl, ?_⟩ | refine ⟨Or.inl rfl, ?_⟩ | refine ⟨Or.inr ⟨_, rfl⟩, ?_⟩ | refine ⟨fun _ => ?_, fun h => absurd h (by decide)⟩ | refine ⟨fun h => absurd h (by decide), fun _ => ?_⟩)
    refine mg_cv (r177 d x 0 _ G) (by omega) ?_
    refine ⟨fun _ => ?_, fun _ => ?_⟩
    · repeat (first | refine ⟨_, mg_Fs rfl rfl, ?_⟩ | refine ⟨_, mg_Fd rfl rfl, ?_⟩ | refine ⟨Or.inl rfl, ?_⟩ | refine ⟨Or.inr ⟨_, rfl⟩, ?_⟩ | refine ⟨fun _ => ?_, fun h => absurd h (by decide)⟩ | refine ⟨fun h => absurd h (by decide), fun _ => ?_⟩)
      refine mg_cv (r176_1 d _ _) (by omega) ?_
      repeat (first | refine ⟨_, mg_Fs rfl rfl, ?_⟩ | refine ⟨_, mg_Fd rfl rfl, ?_⟩ | refine ⟨Or.inl rfl, ?_⟩ | refine ⟨Or.inr ⟨_, rfl⟩, ?_⟩ | refine ⟨fun _ => ?_, fun h => absurd h (by decide)⟩ | refine ⟨fun h => absurd h (by decide), fun _ => ?_⟩)
      exact ⟨rfl, rfl, rfl⟩
    · repeat (first | refine ⟨_, mg_Fs rfl rfl, ?_⟩ | refine ⟨_, mg_Fd rfl rfl, ?_⟩ | refine ⟨Or.inl rfl, ?_⟩ | refine ⟨Or.inr ⟨_, rfl⟩, ?_⟩ | refine ⟨fun _ => ?_, fun h => absurd h (by decide)⟩ | refine ⟨fun h => absurd h (by decide), fun _ => ?_⟩)
      refine mg_cv (r176_1 d _ _) (by omega) ?_
      repeat (first | refine ⟨_, mg_Fs rfl rfl, ?_⟩ | refine ⟨_, mg_Fd rfl rfl, ?_⟩ | refine ⟨Or.inl rfl, ?_⟩ | refine ⟨Or.inr ⟨_, rfl⟩, ?_⟩ | refine ⟨fun _ => ?_, fun h => absurd h (by decide)⟩ | refine ⟨fun h => absurd h (by decide), fun _ => ?_⟩)
      exact ⟨rfl, rfl, rfl⟩
  | some i =>
    obtain ⟨rfl, hi⟩ := vi_s hf
    rw [qF_y hf]
    cases hx : vi x (2 ^ aV A) with
    | none =>
      refine mg_me [] 90 my_268 ms_268 (Nat.le_of_ble_eq_true rfl) ?_
      repeat (first | refine ⟨_, mg_Fs rfl rfl, ?_⟩ | refine ⟨_, mg_Fd rfl rfl, ?_⟩ | refine ⟨Or.inl rfl, ?_⟩ | refine ⟨Or.inr ⟨_, rfl⟩, ?_⟩ | refine ⟨fun _ => ?_, fun h => absurd h (by decide)⟩ | refine ⟨fun h => absurd h (by decide), fun _ => ?_⟩)
      refine mg_cv (r181y d hI hf) (by omega) ?_
      repeat (first | refine ⟨_, mg_Fs rfl rfl, ?_⟩ | refine ⟨_, mg_Fd rfl rfl, ?_⟩ | refine ⟨Or.inl rfl, ?_⟩ | refine ⟨Or.inr ⟨_, rfl⟩, ?_⟩ | refine ⟨fun _ => ?_, fun h => absurd h (by decide)⟩ | refine ⟨fun h => absurd h (by decide), fun _ => ?_⟩)
      refine mg_cv (r183n d hI.v h8) (by omega) ?_
      repeat (first | refine ⟨_, mg_Fs rfl rfl, ?_⟩ | refine ⟨_, mg_Fd rfl rfl, ?_⟩ | refine ⟨Or.inl rfl, ?_⟩ | refine ⟨Or.inr ⟨_, rfl⟩, ?_⟩ | refine ⟨fun _ => ?_, fun h => absurd h (by decide)⟩ | refine ⟨fun h => absurd h (by decide), fun _ => ?_⟩)
      refine mg_cv (r177x d hx rfl (by omega)) (by omega) ?_
      repeat (first | refine ⟨_, mg_Fs rfl rfl, ?_⟩ | refine ⟨_, mg_Fd rfl rfl, ?_⟩ | refine ⟨Or.inl rfl, ?_⟩ | refine ⟨Or.inr ⟨_, rfl⟩, ?_⟩ | refine ⟨fun _ => ?_, fun h => absurd h (by decide)⟩ | refine ⟨fun h => absurd h (by decide), fun _ => ?_⟩)
      refine mg_cv (r176_2 d _) (by omega) ?_
      repeat (first | refine ⟨_, mg_Fs rfl rfl, ?_⟩ | refine ⟨_, mg_Fd rfl rfl, ?_⟩ | refine ⟨Or.inl rfl, ?_⟩ | refine ⟨Or.inr ⟨_, rfl⟩, ?_⟩ | refine ⟨fun _ => ?_, fun h => absurd h (by decide)⟩ | refine ⟨fun h => absurd h (by decide), fun _ => ?_⟩)
      exact ⟨rfl, rfl, rfl⟩
    | some k =>
      obtain ⟨rfl, hk⟩ := vi_s hx
      refine mg_me [] 90 my_268 ms_268 (Nat.le_of_ble_eq_true rfl) ?_
      repeat (first | refine ⟨_, mg_Fs rfl rfl, ?_⟩ | refine ⟨_, mg_Fd rfl rfl, ?_⟩ | refine ⟨Or.inl rfl, ?_⟩ | refine ⟨Or.inr ⟨_, rfl⟩, ?_⟩ | refine ⟨fun _ => ?_, fun h => absurd h (by decide)⟩ | refine ⟨fun h => absurd h (by decide), fun _ => ?_⟩)
      refine mg_cv (r181y d hI hf) (by omega) ?_
      repeat (first | refine ⟨_, mg_Fs rfl rfl, ?_⟩ | refine ⟨_, mg_Fd rfl rfl, ?_⟩ | refine ⟨Or.inl rfl, ?_⟩ | refine ⟨Or.inr ⟨_, rfl⟩, ?_⟩ | refine ⟨fun _ => ?_, fun h => absurd h (by decide)⟩ | refine ⟨fun h => absurd h (by decide), fun _ => ?_⟩)
      refine mg_cv (r183n d hI.v h8) (by omega) ?_
      repeat (first | refine ⟨_, mg_Fs rfl rfl, ?_⟩ | refine ⟨_, mg_Fd rfl rfl, ?_⟩ | refine ⟨Or.inl rfl, ?_⟩ | refine ⟨Or.inr ⟨_, rfl⟩, ?_⟩ | refine ⟨fun _ => ?_, fun h => absurd h (by decide)⟩ | refine ⟨fun h => absurd h (by decide), fun _ => ?_⟩)
      refine mg_cv (r177y d hx rfl (by omega)) (by omega) ?_
      repeat (first | refine ⟨_, mg_Fs rfl rfl, ?_⟩ | refine ⟨_, mg_Fd rfl rfl, ?_⟩ | refine ⟨Or.inl rfl, ?_⟩ | refine ⟨Or.inr ⟨_, rfl⟩, ?_⟩ | refine ⟨fun _ => ?_, fun h => absurd h (by decide)⟩ | refine ⟨fun h => absurd h (by decide), fun _ => ?_⟩)
      refine mg_cv (r176_0 d) (by omega) ?_
      repeat (first | refine ⟨_, mg_Fs rfl rfl, ?_⟩ | refine ⟨_, mg_Fd rfl rfl, ?_⟩ | refine ⟨Or.inl rfl, ?_⟩ | refine ⟨Or.inr ⟨_, rfl⟩, ?_⟩ | refine ⟨fun _ => ?_, fun h => absurd h (by decide)⟩ | refine ⟨fun h => absurd h (by decide), fun _ => ?_⟩)
      refine mg_cv (r192A d (show rI (mg_sF G 148 10 _) A from hI) hi hk) (by omega) ?_
      repeat (first | refine ⟨_, mg_Fs rfl rfl, ?_⟩ | refine ⟨_, mg_Fd rfl rfl, ?_⟩ | refine ⟨Or.inl rfl, ?_⟩ | refine ⟨Or.inr ⟨_, rfl⟩, ?_⟩ | refine ⟨fun _ => ?_, fun h => absurd h (by decide)⟩ | refine ⟨fun h => absurd h (by decide), fun _ => ?_⟩)
      exact ⟨rfl, rfl, rfl⟩
theorem r258A (d : Nat) (hI : rI G A) {f : Nat} (hf : f < aF A) : mg_m (mg_KM scr t) (d + 5) 258 [.ref 148, .int (Int32.ofNat f)] G (mg_v (.int (a_sup A f)) G) := by
  have h1 := hI.f12
  have h2 := hI.v8
  have := r258 (scr := scr) (t := t) d f (aV A) (by omega) G hI.v (by omega)
  have e : a_sum (fun v => if a_dep (G.2.1 154) (a_tb G f) v then (1 : Int32) <<< (Int32.ofNat v &&& 31) else 0) (aV A) = a_sup A f := by
    unfold a_sup
    refine a_sum_c fun v hv => ?_
    rw [hI.dp hf (by omega)]
  rw [e] at this
  exact this
theorem r271 (d : Nat) (hI : rI G A) (f : Int32) : mg_m (mg_KM scr t) (d + 6) 271 [.ref 148, .int f] G (mg_v (.int (q271 A f).2) (mg_sF G 148 10 (.int (q271 A f).1))) := by
  unfold q271
  cases hf : vi f (aF A) with
  | none =>
    rw [qF_x hf]
    refine mg_me [] 90 my_271 ms_271 (Nat.le_of_ble_eq_true rfl) ?_
    repeat (first | refine ⟨_, mg_Fs rfl rfl, ?_⟩ | refine ⟨_, mg_Fd rfl rfl, ?_⟩ | refine ⟨Or.inl rfl, ?_⟩ | refine ⟨Or.inr ⟨_, rfl⟩, ?_⟩ | refine ⟨fun _ => ?_, fun h => absurd h (by decide)⟩ | refine ⟨fun h => absurd h (by decide), fun _ => ?_⟩)
    refine mg_cv (r181x d hI hf) (by omega) ?_
    repeat (first | refine ⟨_, mg_Fs rfl rfl, ?_⟩ | refine ⟨_, mg_Fd rfl rfl, ?_⟩ | refine ⟨Or.inl rfl, ?_⟩ | refine ⟨Or.inr ⟨_, rfl⟩, ?_⟩ | refine ⟨fun _ => ?_, fun h => absurd h (by decide)⟩ | refine ⟨fun h => absurd h (by decide), fun _ => ?_⟩)
    refine mg_cv (r176_1 d _ _) (by omega) ?_
    repeat (first | refine ⟨_, mg_Fs rfl rfl, ?_⟩ | refine ⟨_, mg_Fd rfl rfl, ?_⟩ | refine ⟨Or.inl rfl, ?_⟩ | refine ⟨Or.inr ⟨_, rfl⟩, ?_⟩ | refine ⟨fun _ => ?_, fun h => absurd h (by decide)⟩ | refine ⟨fun h => absurd h (by decide), fun _ => ?_⟩)
    exact ⟨rfl, rfl, rfl⟩
  | some i =>
    obtain ⟨rfl, hi⟩ := vi_s hf
    rw [qF_y hf]
    refine mg_me [] 90 my_271 ms_271 (Nat.le_of_ble_eq_true rfl) ?_
    repeat (first | refine ⟨_, mg_Fs rfl rfl, ?_⟩ | refine ⟨_, mg_Fd rfl rfl, ?_⟩ | refine ⟨Or.inl rfl, ?_⟩ | refine ⟨Or.inr ⟨_, rfl⟩, ?_⟩ | refine ⟨fun _ => ?_, fun h => absurd h (by decide)⟩ | refine ⟨fun h => absurd h (by decide), fun _ => ?_⟩)
    refine mg_cv (r181y d hI hf) (by omega) ?_
    repeat (first | refine ⟨_, mg_Fs rfl rfl, ?_⟩ | refine ⟨_, mg_Fd rfl rfl, ?_⟩ | refine ⟨Or.inl rfl, ?_⟩ | refine ⟨Or.inr ⟨_, rfl⟩, ?_⟩ | refine ⟨fun _ => ?_, fun h => absurd h (by decide)⟩ | refine ⟨fun h => absurd h (by decide), fun _ => ?_⟩)
    refine mg_cv (r176_0 d) (by omega) ?_
    repeat (first | refine ⟨_, mg_Fs rfl rfl, ?_⟩ | refine ⟨_, mg_Fd rfl rfl, ?_⟩ | refine ⟨Or.inl rfl, ?_⟩ | refine ⟨Or.inr ⟨_, rfl⟩, ?_⟩ | refine ⟨fun _ => ?_, fun h => absurd h (by decide)⟩ | refine ⟨fun h => absurd h (by decide), fun _ => ?_⟩)
    refine mg_cv (r258A d (show rI (mg_sF G 148 10 _) A from hI) hi) (by omega) ?_
    repeat (first | refine ⟨_, mg_Fs rfl rfl, ?_⟩ | refine ⟨_, mg_Fd rfl rfl, ?_⟩ | refine ⟨Or.inl rfl, ?_⟩ | refine ⟨Or.inr ⟨_, rfl⟩, ?_⟩ | refine ⟨fun _ => ?_, fun h => absurd h (by decide)⟩ | refine ⟨fun h => absurd h (by decide), fun _ => ?_⟩)
    exact ⟨rfl, rfl, rfl⟩
theorem r262 (d : Nat) (hI : rI G A) (v : Int32) : mg_m (mg_KM scr t) (d + 3) 262 [.ref 148, .int v] G (mg_v (.int (q262 A v).2) (mg_sF G 148 10 (.int (q262 A v).1))) := by
  have h8 := hI.v8
  unfold q262
  cases hf : vi v (aV A) with
  | none =>
    rw [qV_x hf]
    refine mg_me [] 90 my_262 ms_262 (Nat.le_of_ble_eq_true rfl) ?_
    repeat (first | refine ⟨_, mg_Fs rfl rfl, ?_⟩ | refine ⟨_, mg_Fd rfl rfl, ?_⟩ | refine ⟨Or.inl rfl, ?_⟩ | refine ⟨Or.inr ⟨_, rfl⟩, ?_⟩ | refine ⟨fun _ => ?_, fun h => absurd h (by decide)⟩ | refine ⟨fun h => absurd h (by decide), fun _ => ?_⟩)
    refine mg_cv (r182x d hI hf) (by omega) ?_
    repeat (first | refine ⟨_, mg_Fs rfl rfl, ?_⟩ | refine ⟨_, mg_Fd rfl rfl, ?_⟩ | refine ⟨Or.inl rfl, ?_⟩ | refine ⟨Or.inr ⟨_, rfl⟩, ?_⟩ | refine ⟨fun _ => ?_, fun h => absurd h (by decide)⟩ | refine ⟨fun h => absurd h (by decide), fun _ => ?_⟩)
    refine mg_cv (r176_1 d _ _) (by omega) ?_
    repeat (first | refine ⟨_, mg_Fs rfl rfl, ?_⟩ | refine ⟨_, mg_Fd rfl rfl, ?_⟩ | refine ⟨Or.inl rfl, ?_⟩ | refine ⟨Or.inr ⟨_, rfl⟩, ?_⟩ | refine ⟨fun _ => ?_, fun h => absurd h (by decide)⟩ | refine ⟨fun h => absurd h (by decide), fun _ => ?_⟩)
    exact ⟨rfl, rfl, rfl⟩
  | some i =>
    obtain ⟨rfl, hi⟩ := vi_s hf
    rw [qV_y hf]
    refine mg_me [] 90 my_262 ms_262 (Nat.le_of_ble_eq_true rfl) ?_
    repeat (first | refine ⟨_, mg_Fs rfl rfl, ?_⟩ | refine ⟨_, mg_Fd rfl rfl, ?_⟩ | refine ⟨Or.inl rfl, ?_⟩ | refine ⟨Or.inr ⟨_, rfl⟩, ?_⟩ | refine ⟨fun _ => ?_, fun h => absurd h (by decide)⟩ | refine ⟨fun h => absurd h (by decide), fun _ => ?_⟩)
    refine mg_cv (r182y d hI hf) (by omega) ?_
    repeat (first | refine ⟨_, mg_Fs rfl rfl, ?_⟩ | refine ⟨_, mg_Fd rfl rfl, ?_⟩ | refine ⟨Or.inl rfl, ?_⟩ | refine ⟨Or.inr ⟨_, rfl⟩, ?_⟩ | refine ⟨fun _ => ?_, fun h => absurd h (by decide)⟩ | refine ⟨fun h => absurd h (by decide), fun _ => ?_⟩)
    refine mg_cv (r176_0 d) (by omega) ?_
    repeat (first | refine ⟨_, mg_Fs rfl rfl, ?_⟩ | refine ⟨_, mg_Fd rfl rfl, ?_⟩ | refine ⟨Or.inl rfl, ?_⟩ | refine ⟨Or.inr ⟨_, rfl⟩, ?_⟩ | refine ⟨fun _ => ?_, fun h => absurd h (by decide)⟩ | refine ⟨fun h => absurd h (by decide), fun _ => ?_⟩)
    refine ⟨_, _, 2 + i, mg_Ai rfl (by decide), mg_ixE (by rw [Int32.ofNat_add]; rfl) (by omega), by omega, ?_⟩
    rw [show (mg_sF G 148 10 (.int 0)).1 149 (2 + i) = _ from hI.o hi]
    exact ⟨Or.inl rfl, rfl, rfl, rfl⟩
theorem r193A (d : Nat) (hI : rI G A) {f g : Nat} (hf : f < aF A) (hg : g < aF A) : mg_m (mg_KM scr t) (d + 2) 193 [.ref 148, .int (Int32.ofNat f), .int (Int32.ofNat g)] G (mg_v (.int (if aT A f = aT A g then 1 else 0)) G) := by
  have h1 := hI.f12
  have := r193 (scr := scr) (t := t) d f g (by omega) (by omega) G
  rw [hI.t hf, hI.t hg] at this
  exact this
/-- two functions that are asked for: the first throw, or both are there -/
theorem r286 (d : Nat) (hI : rI G A) (f g : Int32) : mg_m (mg_KM scr t) (d + 3) 286 [.ref 148, .int f, .int g] G (mg_v (.int (q286 A f g).2) (mg_sF G 148 10 (.int (q286 A f g).1))) := by
  unfold q286
  cases hf : vi f (aF A) with
  | none =>
    rw [qF_x hf]
    refine mg_me [] 90 my_286 ms_286 (Nat.le_of_ble_eq_true rfl) ?_
    repeat (first | refine ⟨_, mg_Fs rfl rfl, ?_⟩ | refine ⟨_, mg_Fd rfl rfl, ?_⟩ | refine ⟨Or.inl rfl, ?_⟩ | refine ⟨Or.inr ⟨_, rfl⟩, ?_⟩ | refine ⟨fun _ => ?_, fun h => absurd h (by decide)⟩ | refine ⟨fun h => absurd h (by decide), fun _ => ?_⟩)
    refine mg_cv (r181x d hI hf) (by omega) ?_
    repeat (first | refine ⟨_, mg_Fs rfl rfl, ?_⟩ | refine ⟨_, mg_Fd rfl rfl, ?_⟩ | refine ⟨Or.inl rfl, ?_⟩ | refine ⟨Or.inr ⟨_, rfl⟩, ?_⟩ | refine ⟨fun _ => ?_, fun h => absurd h (by decide)⟩ | refine ⟨fun h => absurd h (by decide), fun _ => ?_⟩)
    refine mg_cv (r176_1 d _ _) (by omega) ?_
    repeat (first | refine ⟨_, mg_Fs rfl rfl, ?_⟩ | refine ⟨_, mg_Fd rfl rfl, ?_⟩ | refine ⟨Or.inl rfl, ?_⟩ | refine ⟨Or.inr ⟨_, rfl⟩, ?_⟩ | refine ⟨fun _ => ?_, fun h => absurd h (by decide)⟩ | refine ⟨fun h => absurd h (by decide), fun _ => ?_⟩)
    exact ⟨Or.inr rfl, rfl, rfl, rfl⟩
  | some i =>
    obtain ⟨rfl, hi⟩ := vi_s hf
    rw [qF_y hf]
    cases hg : vi g (aF A) with
    | none =>
      rw [qF_x hg]
      refine mg_me [] 90 my_286 ms_286 (Nat.le_of_ble_eq_true rfl) ?_
      repeat (first | refine ⟨_, mg_Fs rfl rfl, ?_⟩ | refine ⟨_, mg_Fd rfl rfl, ?_⟩ | refine ⟨Or.inl rfl, ?_⟩ | refine ⟨Or.inr ⟨_, rfl⟩, ?_⟩ | refine ⟨fun _ => ?_, fun h => absurd h (by decide)⟩ | refine ⟨fun h => absurd h (by decide), fun _ => ?_⟩)
      refine mg_cv (r181y d hI hf) (by omega) ?_
      repeat (first | refine ⟨_, mg_Fs rfl rfl, ?_⟩ | refine ⟨_, mg_Fd rfl rfl, ?_⟩ | refine ⟨Or.inl rfl, ?_⟩ | refine ⟨Or.inr ⟨_, rfl⟩, ?_⟩ | refine ⟨fun _ => ?_, fun h => absurd h (by decide)⟩ | refine ⟨fun h => absurd h (by decide), fun _ => ?_⟩)
      refine mg_cv (r181x d hI hg) (by omega) ?_
      repeat (first | refine ⟨_, mg_Fs rfl rfl, ?_⟩ | refine ⟨_, mg_Fd rfl rfl, ?_⟩ | refine ⟨Or.inl rfl, ?_⟩ | refine ⟨Or.inr ⟨_, rfl⟩, ?_⟩ | refine ⟨fun _ => ?_, fun h => absurd h (by decide)⟩ | refine ⟨fun h => absurd h (by decide), fun _ => ?_⟩)
      refine mg_cv (r176_1 d _ _) (by omega) ?_
      repeat (first | refine ⟨_, mg_Fs rfl rfl, ?_⟩ | refine ⟨_, mg_Fd rfl rfl, ?_⟩ | refine ⟨Or.inl rfl, ?_⟩ | refine ⟨Or.inr ⟨_, rfl⟩, ?_⟩ | refine ⟨fun _ => ?_, fun h => absurd h (by decide)⟩ | refine ⟨fun h => absurd h (by decide), fun _ => ?_⟩)
      exact ⟨Or.inr rfl, rfl, rfl, rfl⟩
    | some j =>
      obtain ⟨rfl, hj⟩ := vi_s hg
      rw [qF_y hg]
      refine mg_me [] 90 my_286 ms_286 (Nat.le_of_ble_eq_true rfl) ?_
      repeat (first | refine ⟨_, mg_Fs rfl rfl, ?_⟩ | refine ⟨_, mg_Fd rfl rfl, ?_⟩ | refine ⟨Or.inl rfl, ?_⟩ | refine ⟨Or.inr ⟨_, rfl⟩, ?_⟩ | refine ⟨fun _ => ?_, fun h => absurd h (by decide)⟩ | refine ⟨fun h => absurd h (by decide), fun _ => ?_⟩)
      refine mg_cv (r181y d hI hf) (by omega) ?_
      repeat (first | refine ⟨_, mg_Fs rfl rfl, ?_⟩ | refine ⟨_, mg_Fd rfl rfl, ?_⟩ | refine ⟨Or.inl rfl, ?_⟩ | refine ⟨Or.inr ⟨_, rfl⟩, ?_⟩ | refine ⟨fun _ => ?_, fun h => absurd h (by decide)⟩ | refine ⟨fun h => absurd h (by decide), fun _ => ?_⟩)
      refine mg_cv (r181y d hI hg) (by omega) ?_
      repeat (first | refine ⟨_, mg_Fs rfl rfl, ?_⟩ | refine ⟨_, mg_Fd rfl rfl, ?_⟩ | refine ⟨Or.inl rfl, ?_⟩ | refine ⟨Or.inr ⟨_, rfl⟩, ?_⟩ | refine ⟨fun _ => ?_, fun h => absurd h (by decide)⟩ | refine ⟨fun h => absurd h (by decide), fun _ => ?_⟩)
      refine mg_cv (r176_0 d) (by omega) ?_
      repeat (first | refine ⟨_, mg_Fs rfl rfl, ?_⟩ | refine ⟨_, mg_Fd rfl rfl, ?_⟩ | refine ⟨Or.inl rfl, ?_⟩ | refine ⟨Or.inr ⟨_, rfl⟩, ?_⟩ | refine ⟨fun _ => ?_, fun h => absurd h (by decide)⟩ | refine ⟨fun h => absurd h (by decide), fun _ => ?_⟩)
      refine mg_cv (r193A d (show rI (mg_sF G 148 10 _) A from hI) hi hj) (by omega) ?_
      refine ⟨Or.inr (mg_bnar _ ?_), rfl, rfl, rfl⟩
      split
      · exact Or.inr rfl
      · exact Or.inl rfl
end RM
