def rNm (G : mg_G) (p : Nat) (l : List Nat) : Prop := G.1 149 p = Int32.ofNat l.length ∧ ∀ i c, l[i]? = some c → G.1 149 (p + 1 + i) = Int32.ofNat c
def bA (G : mg_G) (p q : Nat) (A : a_A) : Prop := G.1 149 p = Int32.ofNat (aV A) ∧ G.1 149 (p + 1) = Int32.ofNat (aF A) ∧ (∀ j, j < aV A → G.1 149 (p + 2 + j) = Int32.ofNat (aD A j)) ∧ (∀ v, v < aV A → G.1 149 (p + 10 + v) = aC A v) ∧ (∀ v, v < aV A → G.1 149 (p + 18 + v) = aP A v) ∧ (∀ v, v < aV A → rNm G (p + 26 + 8 * v) (aVN A v)) ∧ (∀ f, f < aF A → rNm G (p + 90 + 8 * f) (aFN A f)) ∧ ∀ f, f < aF A → ((G.2.1 150 (q + 4 * f), G.2.1 150 (q + 4 * f + 1), G.2.1 150 (q + 4 * f + 2), G.2.1 150 (q + 4 * f + 3)) : a_T) = aT A f
def rI (G : mg_G) (A : a_A) : Prop := (∀ v, v < 6 → G.2.1 154 v = a_m v) ∧ bA G 0 0 A ∧ aW A
theorem a_sum_c {f g : Nat → Int32} {n : Nat} (h : ∀ k, k < n → f k = g k) : a_sum f n = a_sum g n := by
  induction n with
  | zero => rfl
  | succ n ih =>
    show a_sum f n + f n = a_sum g n + g n
    rw [ih (fun k hk => h k (by omega)), h n (by omega)]
section RI
variable {G : mg_G} {A : a_A}
theorem rI.f (h : rI G A) : G.1 149 1 = Int32.ofNat (aF A) := h.2.1.2.1
theorem rI.o (h : rI G A) {j : Nat} (hj : j < aV A) : G.1 149 (2 + j) = Int32.ofNat (aD A j) := by
  have := h.2.1.2.2.1 j hj
  rwa [Nat.zero_add] at this
theorem rI.c (h : rI G A) {j : Nat} (hj : j < aV A) : G.1 149 (10 + j) = aC A j := by
  have := h.2.1.2.2.2.1 j hj
  rwa [Nat.zero_add] at this
theorem rI.vn (h : rI G A) {j : Nat} (hj : j < aV A) : rNm G (26 + 8 * j) (aVN A j) := by
  have := h.2.1.2.2.2.2.2.1 j hj
  rwa [Nat.zero_add] at this
theorem rI.fn (h : rI G A) {j : Nat} (hj : j < aF A) : rNm G (90 + 8 * j) (aFN A j) := by
  have := h.2.1.2.2.2.2.2.2.1 j hj
  rwa [Nat.zero_add] at this
theorem rI.t (h : rI G A) {j : Nat} (hj : j < aF A) : a_tb G j = aT A j := by
  have := h.2.1.2.2.2.2.2.2.2 j hj
  rwa [Nat.zero_add] at this
theorem rI.v8 (h : rI G A) : aV A < 9 := Nat.lt_succ_of_le h.2.2.2.1.2.2.2
theorem rI.f12 (h : rI G A) : aF A ≤ 12 := h.2.2.2.2.1
end RI
def vi (v : Int32) (n : Nat) : Option Nat := if 0 ≤ v.toInt ∧ v.toInt < n then some v.toInt.toNat else none
theorem vi_s {v : Int32} {n k : Nat} (h : vi v n = some k) : v = Int32.ofNat k ∧ k < n := by
  unfold vi at h
  split at h
  · rename_i h2
    have e : v.toInt.toNat = k := Option.some.inj h
    have h3 := Int32.toInt_lt v
    refine ⟨Int32.toInt_inj.mp ?_, by omega⟩
    rw [Int32.toInt_ofNat_of_lt (by omega)]
    omega
  · cases h
theorem vi_n {v : Int32} {n : Nat} (h : vi v n = none) (hn : n < 2147483648) : v < 0 ∨ Int32.ofNat n ≤ v := by
  unfold vi at h
  split at h
  · cases h
  · rename_i h2
    by_cases h3 : 0 ≤ v.toInt
    · refine Or.inr (Int32.le_iff_toInt_le.mpr ?_)
      rw [Int32.toInt_ofNat_of_lt hn]
      omega
    · refine Or.inl (Int32.lt_iff_toInt_lt.mpr ?_)
      rw [show (0 : Int32).toInt = 0 from by decide]
      omega
theorem vi_of {n k : Nat} (h : k < n) (hn : n < 2147483648) : vi (Int32.ofNat k) n = some k := by
  unfold vi
  rw [Int32.toInt_ofNat_of_lt (by omega), if_pos (by omega)]
  rfl
theorem mg_pre {n : Nat} (hn : n < 2147483648) : (Int32.ofNat n - 1).toInt = (n : Int) - 1 := by
  cases n with
  | zero => decide
  | succ n =>
    rw [show Int32.ofNat (n + 1) - 1 = Int32.ofNat n from mg_dec n, Int32.toInt_ofNat_of_lt (by omega)]
    omega
section RM
variable {scr : Nat × (Nat → Int32)} {t : List mg_S} {G : mg_G} {A : a_A}
end RM
abbrev qR : Type := Int32 × Int32
def qF (A : a_A) (f : Int32) (k : Nat → qR) : qR := match vi f (aF A) with
  | none => (1, 0)
  | some f => k f
def qV (A : a_A) (v : Int32) (k : Nat → qR) : qR := match vi v (aV A) with
  | none => (1, 0)
  | some v => k v
theorem qF_y {A : a_A} {f : Int32} {k : Nat → qR} {i : Nat} (h : vi f (aF A) = some i) : qF A f k = k i := by unfold qF; rw [h]
theorem qF_x {A : a_A} {f : Int32} {k : Nat → qR} (h : vi f (aF A) = none) : qF A f k = (1, 0) := by unfold qF; rw [h]
theorem qV_y {A : a_A} {f : Int32} {k : Nat → qR} {i : Nat} (h : vi f (aV A) = some i) : qV A f k = k i := by unfold qV; rw [h]
theorem qV_x {A : a_A} {f : Int32} {k : Nat → qR} (h : vi f (aV A) = none) : qV A f k = (1, 0) := by unfold qV; rw [h]
def q268 (A : a_A) (f x : Int32) : qR := qF A f fun f => match vi x (2 ^ aV A) with
  | none => (2, 0)
  | some x => (0, a_atI (aT A f) x)
def a_sup (A : a_A) (f : Nat) : Int32 := a_sum (fun v => if a_dp (aT A f) v then (1 : Int32) <<< (Int32.ofNat v &&& 31) else 0) (aV A)
def q286 (A : a_A) (f g : Int32) : qR := qF A f fun f => qF A g fun g => (0, if aT A f = aT A g then 1 else 0)
section RM
variable {scr : Nat × (Nat → Int32)} {t : List mg_S} {G : mg_G} {A : a_A}
theorem mg_p256 {n : Nat} (h : n < 9) : 2 ^ n ≤ 256 := Nat.pow_le_pow_right (by decide) (show n ≤ 8 by omega)
end RM
