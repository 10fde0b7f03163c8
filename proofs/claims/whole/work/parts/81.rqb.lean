/-! REFERENCE: queries of tables -/
theorem a_cst_c {co co' : Nat → Int32} {nv k : Nat} (h : ∀ v, v < nv → co v = co' v) : a_cst co nv k = a_cst co' nv k := a_sum_c fun v hv => by rw [h v hv]
theorem a_lst_c {T : a_T} {co co' : Nat → Int32} {nv : Nat} (h : ∀ v, v < nv → co v = co' v) : ∀ n, a_lst T co nv n = a_lst T co' nv n
  | 0 => rfl
  | n + 1 => by
    unfold a_lst
    rw [a_lst_c h n]
    cases a_lst T co' nv n with
    | none => rfl
    | some b =>
      show (if a_at T n = true then (if a_cst co nv n < a_cst co nv b then some n else some b) else some b) = _
      rw [a_cst_c h, a_cst_c h]
def q282 (A : a_A) (f : Int32) : qR := qF A f fun f => (0, match a_lst (aT A f) (aC A) (aV A) (2 ^ aV A) with
  | none => Int32.ofInt (-1)
  | some k => a_cst (aC A) (aV A) k)
def q283 (A : a_A) (f : Int32) : qR := qF A f fun f => match a_lst (aT A f) (aC A) (aV A) (2 ^ aV A) with
  | none => (2, 0)
  | some k => (0, Int32.ofNat k)
def q287 (A : a_A) (f g : Int32) : qR := qF A f fun f => qF A g fun g => (0, if (a_ff (fun k => a_at (aT A f) k && !a_at (aT A g) k) (2 ^ aV A)).isSome then 0 else 1)
def q288 (A : a_A) (f g : Int32) : qR := qF A f fun f => qF A g fun g => (0, a_oi (a_ff (fun k => a_at (aT A f) k != a_at (aT A g) k) (2 ^ aV A)))
def q289 (A : a_A) (f : Int32) : qR := qF A f fun f => (0, a_oi (a_ff (fun g => g != f && decide (aT A f = aT A g)) (aF A)))
/-- the model with a number -/
def a_mod (A : a_A) (f : Nat) (x : Int32) : Option Nat := a_ff (fun k => a_at (aT A f) k && decide (a_sum (a_atI (aT A f)) k = x)) (2 ^ aV A)
def q270 (A : a_A) (f x : Int32) : qR := qF A f fun f => match a_mod A f x with
  | none => (2, 0)
  | some k => (0, Int32.ofNat k)
def a_rise (T : a_T) (v n : Nat) (x : Bool) : Bool := (a_ff (fun k => a_stp T v x k) n).isSome
def a_pol (a b : Bool) : Int32 := (if a then 1 else 0) ||| (if b then 2 else 0)
def q272 (A : a_A) (f v : Int32) : qR := qF A f fun f => qV A v fun v => (0, a_pol (a_rise (aT A f) v (2 ^ aV A) false) (a_rise (aT A f) v (2 ^ aV A) true))
def q273 (A : a_A) (f v : Int32) : qR := qF A f fun f => qV A v fun v => (0, a_sum (fun k => if a_at (aT A f) k = a_at (aT A f) (a_sb k v (!k.testBit v)) then 0 else 1) (2 ^ aV A))
theorem a_ff_s {P : Nat → Bool} {n : Nat} : a_ff P (n + 1) = (match a_ff P n with
  | none => if P n then some n else none
  | some k => some k) := by
  rcases a_ff_is P n with ⟨k, h1, h2, h3, h4⟩ | ⟨h1, h2⟩
  · rw [h2]
    exact a_ff_some (by omega) h3 h4
  · rw [h1]
    show _ = if P n then some n else none
    cases hp : P n with
    | true => exact a_ff_some (by omega) hp h2
    | false =>
      refine a_ff_none fun j hj => ?_
      rcases Nat.lt_or_eq_of_le (Nat.le_of_lt_succ hj) with h | rfl
      · exact h2 j h
      · exact hp
theorem a_ff_0 {P : Nat → Bool} : a_ff P 0 = none := rfl
theorem mg_bb : ∀ a b : Bool, ((if a then (1 : Int32) else 0) = (if b then 1 else 0)) ↔ a = b := by decide
theorem mg_ble : ∀ a b : Bool, ((if a then (1 : Int32) else 0) ≤ (if b then 1 else 0)) ↔ (a && !b) = false := by decide
theorem mg_blt : ∀ a b : Bool, ((if a then (1 : Int32) else 0) < (if b then 1 else 0)) ↔ (b && !a) = true := by decide
/-- how many models there are below n -/
def a_cnt (T : a_T) : Nat → Nat
  | 0 => 0
  | n + 1 => a_cnt T n + (if a_at T n then 1 else 0)
theorem a_cnt_le (T : a_T) : ∀ n, a_cnt T n ≤ n
  | 0 => Nat.le_refl _
  | n + 1 => by
    have := a_cnt_le T n
    unfold a_cnt
    split <;> omega
theorem a_cnt_e (T : a_T) : ∀ n, a_sum (a_atI T) n = Int32.ofNat (a_cnt T n)
  | 0 => rfl
  | n + 1 => by
    show a_sum (a_atI T) n + a_atI T n = Int32.ofNat (a_cnt T n + (if a_at T n then 1 else 0))
    rw [a_cnt_e T n, Int32.ofNat_add]
    unfold a_atI
    cases a_at T n <;> rfl
section RM
variable {scr : Nat × (Nat → Int32)} {t : List mg_S} {G : mg_G} {A : a_A}
theorem r280 (d k : Nat) (hI : rI G A) (hk : k < 256) : mg_m (mg_KM scr t) (d + 2) 280 [.ref 148, .int (Int32.ofNat k)] G (mg_v (.int (a_cst (aC A) (aV A) k)) G) := by
  have h8 := hI.v8
  refine mg_me [4] 10 my_280 ms_280 (Nat.le_of_ble_eq_true rfl) ?_
  refine mg_loop (aV A) (fun v L G' => L = [some (.ref 148), some (.int (Int32.ofNat k)), some (.int (a_cst (aC A) v k)), some (.int (Int32.ofNat v))] ∧ G' = G) ?_ ?_ _ _ ⟨rfl, rfl⟩
  · rintro v L G' hv ⟨rfl, rfl⟩ ih
    refine mg_go [4] 40 4 ms_280 ?_
    repeat (first | refine ⟨_, mg_Fs rfl rfl, ?_⟩ | refine ⟨_, mg_Fd rfl rfl, ?_⟩ | refine ⟨Or.inl rfl, ?_⟩ | refine ⟨Or.inr ⟨_, rfl⟩, ?_⟩ | refine ⟨fun _ => ?_, fun h => absurd h (by decide)⟩ | refine ⟨fun h => absurd h (by decide), fun _ => ?_⟩)
    refine mg_cv (r178n d hI.v) (by omega) ?_
    refine ⟨fun h => absurd h (mg_nle (by omega) (by omega)), fun _ => ?_⟩
    repeat (first | refine ⟨_, mg_Fs rfl rfl, ?_⟩ | refine ⟨_, mg_Fd rfl rfl, ?_⟩ | refine ⟨Or.inl rfl, ?_⟩ | refine ⟨Or.inr ⟨_, rfl⟩, ?_⟩ | refine ⟨fun _ => ?_, fun h => absurd h (by decide)⟩ | refine ⟨fun h => absurd h (by decide), fun _ => ?_⟩)
    refine ⟨_, _, 10 + v, mg_Ai rfl (by decide), mg_ixE (by rw [Int32.ofNat_add]; rfl) (by omega), by omega, ?_⟩
    refine ih _ _ ⟨?_, rfl⟩
    rw [← mg_inc v]
    show (_ : mm_L) = [_, _, some (.int (a_cst (aC A) v k + (if k.testBit v then (1 : Int32) else 0) * aC A v)), _]
    rw [← mg_abit v (by omega) k hk, ← hI.c hv] <;> rfl
  · rintro L G' ⟨rfl, rfl⟩
    refine mg_go [4] 40 4 ms_280 ?_
    repeat (first | refine ⟨_, mg_Fs rfl rfl, ?_⟩ | refine ⟨_, mg_Fd rfl rfl, ?_⟩ | refine ⟨Or.inl rfl, ?_⟩ | refine ⟨Or.inr ⟨_, rfl⟩, ?_⟩ | refine ⟨fun _ => ?_, fun h => absurd h (by decide)⟩ | refine ⟨fun h => absurd h (by decide), fun _ => ?_⟩)
    refine mg_cv (r178n d hI.v) (by omega) ?_
    exact ⟨fun _ => ⟨Or.inl rfl, rfl, rfl, rfl⟩, fun h => absurd h (Int32.not_lt.mpr (Int32.le_refl _))⟩
theorem r281 (d f : Nat) (hI : rI G A) (hf : f < aF A) : mg_m (mg_KM scr t) (d + 3) 281 [.ref 148, .int (Int32.ofNat f)] G (mg_v (.int (a_oi (a_lst (aT A f) (aC A) (aV A) (2 ^ aV A)))) G) := by
  have h8 := hI.v8
  have hp := mg_p256 h8
  refine mg_me [4] 10 my_281 ms_281 (Nat.le_of_ble_eq_true rfl) ?_
  refine mg_loop (2 ^ aV A) (fun k L G' => L = [some (.ref 148), some (.int (Int32.ofNat f)), some (.int (a_oi (a_lst (aT A f) (aC A) (aV A) k))), some (.int (Int32.ofNat k))] ∧ G' = G) ?_ ?_ _ _ ⟨rfl, rfl⟩
  · rintro k L G' hk ⟨rfl, rfl⟩ ih
    have es : a_lst (aT A f) (aC A) (aV A) (k + 1) = if a_at (aT A f) k = true then (match a_lst (aT A f) (aC A) (aV A) k with
      | none => some k
      | some b => if a_cst (aC A) (aV A) k < a_cst (aC A) (aV A) b then some k else some b) else a_lst (aT A f) (aC A) (aV A) k := rfl
    have hlt := a_lst_lt (aT A f) (aC A) (aV A) k
    rw [es, ← mg_inc k] at ih
    refine mg_go [4] 80 4 ms_281 ?_
    repeat (first | refine ⟨_, mg_Fs rfl rfl, ?_⟩ | refine ⟨_, mg_Fd rfl rfl, ?_⟩ | refine ⟨Or.inl rfl, ?_⟩ | refine ⟨Or.inr ⟨_, rfl⟩, ?_⟩ | refine ⟨fun _ => ?_, fun h => absurd h (by decide)⟩ | refine ⟨fun h => absurd h (by decide), fun _ => ?_⟩)
    refine mg_cv (r183n d hI.v h8) (by omega) ?_
    refine ⟨fun h => absurd h (mg_nle (by omega) (by omega)), fun _ => ?_⟩
    repeat (first | refine ⟨_, mg_Fs rfl rfl, ?_⟩ | refine ⟨_, mg_Fd rfl rfl, ?_⟩ | refine ⟨Or.inl rfl, ?_⟩ | refine ⟨Or.inr ⟨_, rfl⟩, ?_⟩ | refine ⟨fun _ => ?_, fun h => absurd h (by decide)⟩ | refine ⟨fun h => absurd h (by decide), fun _ => ?_⟩)
    refine mg_cv (r192A d hI hf hk) (by omega) ?_
    unfold a_atI
    cases hb : a_at (aT A f) k with
    | false =>
      rw [hb, if_neg (by decide)] at ih
      exact ⟨fun _ => ih _ _ ⟨rfl, rfl⟩, fun h => absurd h (by decide)⟩
    | true =>
      rw [hb, if_pos rfl] at ih
      refine ⟨fun h => absurd rfl h, fun _ => ?_⟩
      cases ha : a_lst (aT A f) (aC A) (aV A) k with
      | none =>
        rw [ha] at ih
        exact ⟨fun _ => ih _ _ ⟨rfl, rfl⟩, fun h => absurd rfl h⟩
      | some b =>
        rw [ha] at ih
        have hb9 := hlt b ha
        refine ⟨fun h => absurd h (mg_n1 (by omega)), fun _ => ?_⟩
        repeat (first | refine ⟨_, mg_Fs rfl rfl, ?_⟩ | refine ⟨_, mg_Fd rfl rfl, ?_⟩ | refine ⟨Or.inl rfl, ?_⟩ | refine ⟨Or.inr ⟨_, rfl⟩, ?_⟩ | refine ⟨fun _ => ?_, fun h => absurd h (by decide)⟩ | refine ⟨fun h => absurd h (by decide), fun _ => ?_⟩)
        refine mg_cv (r280 d k hI (by omega)) (by omega) ?_
        repeat (first | refine ⟨_, mg_Fs rfl rfl, ?_⟩ | refine ⟨_, mg_Fd rfl rfl, ?_⟩ | refine ⟨Or.inl rfl, ?_⟩ | refine ⟨Or.inr ⟨_, rfl⟩, ?_⟩ | refine ⟨fun _ => ?_, fun h => absurd h (by decide)⟩ | refine ⟨fun h => absurd h (by decide), fun _ => ?_⟩)
        refine mg_cv (r280 d b hI (by omega)) (by omega) ?_
        refine ⟨fun h => ?_, fun h => ?_⟩
        · exact ih [some (.ref 148), some (.int (Int32.ofNat f)), some (.int (Int32.ofNat b)), some (.int (Int32.ofNat k + Int32.ofInt 1))] G' ⟨by show (_ : mm_L) = [_, _, some (.int (a_oi (if a_cst (aC A) (aV A) k < a_cst (aC A) (aV A) b then some k else some b))), _]; rw [if_neg (Int32.not_lt.mpr h)]; rfl, rfl⟩
        · exact ih [some (.ref 148), some (.int (Int32.ofNat f)), some (.int (Int32.ofNat k)), some (.int (Int32.ofNat k + Int32.ofInt 1))] G' ⟨by show (_ : mm_L) = [_, _, some (.int (a_oi (if a_cst (aC A) (aV A) k < a_cst (aC A) (aV A) b then some k else some b))), _]; rw [if_pos h]; rfl, rfl⟩
  · rintro L G' ⟨rfl, rfl⟩
    refine mg_go [4] 40 4 ms_281 ?_
    repeat (first | refine ⟨_, mg_Fs rfl rfl, ?_⟩ | refine ⟨_, mg_Fd rfl rfl, ?_⟩ | refine ⟨Or.inl rfl, ?_⟩ | refine ⟨Or.inr ⟨_, rfl⟩, ?_⟩ | refine ⟨fun _ => ?_, fun h => absurd h (by decide)⟩ | refine ⟨fun h => absurd h (by decide), fun _ => ?_⟩)
    refine mg_cv (r183n d hI.v h8) (by omega) ?_
    exact ⟨fun _ => ⟨Or.inl rfl, rfl, rfl, rfl⟩, fun h => absurd h (Int32.not_lt.mpr (Int32.le_refl _))⟩
theorem r282 (d : Nat) (hI : rI G A) (f : Int32) : mg_m (mg_KM scr t) (d + 4) 282 [.ref 148, .int f] G (mg_v (.int (q282 A f).2) (mg_sF G 148 10 (.int (q282 A f).1))) := by
  have h8 := hI.v8
  have h12 := hI.f12
  have hp := mg_p256 h8
  unfold q282
  cases hf : vi f (aF A) with
  | none =>
    rw [qF_x hf]
    refine mg_me [] 120 my_282 ms_282 (Nat.le_of_ble_eq_true rfl) ?_
    repeat (first | refine ⟨_, mg_Fs rfl rfl, ?_⟩ | refine ⟨_, mg_Fd rfl rfl, ?_⟩ | refine ⟨Or.inl rfl, ?_⟩ | refine ⟨Or.inr ⟨_, rfl⟩, ?_⟩ | refine ⟨fun _ => ?_, fun h => absurd h (by decide)⟩ | refine ⟨fun h => absurd h (by decide), fun _ => ?_⟩)
    refine mg_cv (r181x d hI hf) (by omega) ?_
    repeat (first | refine ⟨_, mg_Fs rfl rfl, ?_⟩ | refine ⟨_, mg_Fd rfl rfl, ?_⟩ | refine ⟨Or.inl rfl, ?_⟩ | refine ⟨Or.inr ⟨_, rfl⟩, ?_⟩ | refine ⟨fun _ => ?_, fun h => absurd h (by decide)⟩ | refine ⟨fun h => absurd h (by decide), fun _ => ?_⟩)
    refine mg_cv (r176_1 d _ _) (by omega) ?_
    repeat (first | refine ⟨_, mg_Fs rfl rfl, ?_⟩ | refine ⟨_, mg_Fd rfl rfl, ?_⟩ | refine ⟨Or.inl rfl, ?_⟩ | refine ⟨Or.inr ⟨_, rfl⟩, ?_⟩ | refine ⟨fun _ => ?_, fun h => absurd h (by decide)⟩ | refine ⟨fun h => absurd h (by decide), fun _ => ?_⟩)
    exact ⟨rfl, rfl, rfl⟩
  | some i =>
    obtain ⟨rfl, hi⟩ := vi_s hf
    rw [qF_y hf]
    refine mg_me [] 120 my_282 ms_282 (Nat.le_of_ble_eq_true rfl) ?_
    repeat (first | refine ⟨_, mg_Fs rfl rfl, ?_⟩ | refine ⟨_, mg_Fd rfl rfl, ?_⟩ | refine ⟨Or.inl rfl, ?_⟩ | refine ⟨Or.inr ⟨_, rfl⟩, ?_⟩ | refine ⟨fun _ => ?_, fun h => absurd h (by decide)⟩ | refine ⟨fun h => absurd h (by decide), fun _ => ?_⟩)
    refine mg_cv (r181y d hI hf) (by omega) ?_
    repeat (first | refine ⟨_, mg_Fs rfl rfl, ?_⟩ | refine ⟨_, mg_Fd rfl rfl, ?_⟩ | refine ⟨Or.inl rfl, ?_⟩ | refine ⟨Or.inr ⟨_, rfl⟩, ?_⟩ | refine ⟨fun _ => ?_, fun h => absurd h (by decide)⟩ | refine ⟨fun h => absurd h (by decide), fun _ => ?_⟩)
    refine mg_cv (r176_0 d) (by omega) ?_
    repeat (first | refine ⟨_, mg_Fs rfl rfl, ?_⟩ | refine ⟨_, mg_Fd rfl rfl, ?_⟩ | refine ⟨Or.inl rfl, ?_⟩ | refine ⟨Or.inr ⟨_, rfl⟩, ?_⟩ | refine ⟨fun _ => ?_, fun h => absurd h (by decide)⟩ | refine ⟨fun h => absurd h (by decide), fun _ => ?_⟩)
    refine mg_cv (r281 d i (show rI (mg_sF G 148 10 _) A from hI) hi) (by omega) ?_
    have hlt := a_lst_lt (aT A i) (aC A) (aV A) (2 ^ aV A)
    cases ha : a_lst (aT A i) (aC A) (aV A) (2 ^ aV A) with
    | none => exact ⟨fun h => absurd rfl h, fun _ => ⟨Or.inl rfl, rfl, rfl, rfl⟩⟩
    | some b =>
      have hb9 := hlt b ha
      refine ⟨fun _ => ?_, fun h => absurd h (mg_n1 (by omega))⟩
      repeat (first | refine ⟨_, mg_Fs rfl rfl, ?_⟩ | refine ⟨_, mg_Fd rfl rfl, ?_⟩ | refine ⟨Or.inl rfl, ?_⟩ | refine ⟨Or.inr ⟨_, rfl⟩, ?_⟩ | refine ⟨fun _ => ?_, fun h => absurd h (by decide)⟩ | refine ⟨fun h => absurd h (by decide), fun _ => ?_⟩)
      refine mg_cv (r280 d b (show rI (mg_sF G 148 10 _) A from hI) (by omega)) (by omega) ?_
      exact ⟨Or.inl rfl, rfl, rfl, rfl⟩
theorem r283 (d : Nat) (hI : rI G A) (f : Int32) : mg_m (mg_KM scr t) (d + 4) 283 [.ref 148, .int f] G (mg_v (.int (q283 A f).2) (mg_sF G 148 10 (.int (q283 A f).1))) := by
  have h8 := hI.v8
  have h12 := hI.f12
  have hp := mg_p256 h8
  unfold q283
  cases hf : vi f (aF A) with
  | none =>
    rw [qF_x hf]
    refine mg_me [] 120 my_283 ms_283 (Nat.le_of_ble_eq_true rfl) ?_
    repeat (first | refine ⟨_, mg_Fs rfl rfl, ?_⟩ | refine ⟨_, mg_Fd rfl rfl, ?_⟩ | refine ⟨Or.inl rfl, ?_⟩ | refine ⟨Or.inr ⟨_, rfl⟩, ?_⟩ | refine ⟨fun _ => ?_, fun h => absurd h (by decide)⟩ | refine ⟨fun h => absurd h (by decide), fun _ => ?_⟩)
    refine mg_cv (r181x d hI hf) (by omega) ?_
    repeat (first | refine ⟨_, mg_Fs rfl rfl, ?_⟩ | refine ⟨_, mg_Fd rfl rfl, ?_⟩ | refine ⟨Or.inl rfl, ?_⟩ | refine ⟨Or.inr ⟨_, rfl⟩, ?_⟩ | refine ⟨fun _ => ?_, fun h => absurd h (by decide)⟩ | refine ⟨fun h => absurd h (by decide), fun _ => ?_⟩)
    refine mg_cv (r176_1 d _ _) (by omega) ?_
    repeat (first | refine ⟨_, mg_Fs rfl rfl, ?_⟩ | refine ⟨_, mg_Fd rfl rfl, ?_⟩ | refine ⟨Or.inl rfl, ?_⟩ | refine ⟨Or.inr ⟨_, rfl⟩, ?_⟩ | refine ⟨fun _ => ?_, fun h => absurd h (by decide)⟩ | refine ⟨fun h => absurd h (by decide), fun _ => ?_⟩)
    exact ⟨rfl, rfl, rfl⟩
  | some i =>
    obtain ⟨rfl, hi⟩ := vi_s hf
    rw [qF_y hf]
    have hlt := a_lst_lt (aT A i) (aC A) (aV A) (2 ^ aV A)
    have h1 := r281 (scr := scr) (t := t) d i hI hi
    have h2 := r281 (scr := scr) (t := t) d i (show rI (mg_sF G 148 10 (.int 0)) A from hI) hi
    cases ha : a_lst (aT A i) (aC A) (aV A) (2 ^ aV A) with
    | none =>
      rw [ha] at h1
      refine mg_me [] 120 my_283 ms_283 (Nat.le_of_ble_eq_true rfl) ?_
      repeat (first | refine ⟨_, mg_Fs rfl rfl, ?_⟩ | refine ⟨_, mg_Fd rfl rfl, ?_⟩ | refine ⟨Or.inl rfl, ?_⟩ | refine ⟨Or.inr ⟨_, rfl⟩, ?_⟩ | refine ⟨fun _ => ?_, fun h => absurd h (by decide)⟩ | refine ⟨fun h => absurd h (by decide), fun _ => ?_⟩)
      refine mg_cv (r181y d hI hf) (by omega) ?_
      repeat (first | refine ⟨_, mg_Fs rfl rfl, ?_⟩ | refine ⟨_, mg_Fd rfl rfl, ?_⟩ | refine ⟨Or.inl rfl, ?_⟩ | refine ⟨Or.inr ⟨_, rfl⟩, ?_⟩ | refine ⟨fun _ => ?_, fun h => absurd h (by decide)⟩ | refine ⟨fun h => absurd h (by decide), fun _ => ?_⟩)
      refine mg_cv (h1) (by omega) ?_
      repeat (first | refine ⟨_, mg_Fs rfl rfl, ?_⟩ | refine ⟨_, mg_Fd rfl rfl, ?_⟩ | refine ⟨Or.inl rfl, ?_⟩ | refine ⟨Or.inr ⟨_, rfl⟩, ?_⟩ | refine ⟨fun _ => ?_, fun h => absurd h (by decide)⟩ | refine ⟨fun h => absurd h (by decide), fun _ => ?_⟩)
      refine mg_cv (r176_2 d _) (by omega) ?_
      repeat (first | refine ⟨_, mg_Fs rfl rfl, ?_⟩ | refine ⟨_, mg_Fd rfl rfl, ?_⟩ | refine ⟨Or.inl rfl, ?_⟩ | refine ⟨Or.inr ⟨_, rfl⟩, ?_⟩ | refine ⟨fun _ => ?_, fun h => absurd h (by decide)⟩ | refine ⟨fun h => absurd h (by decide), fun _ => ?_⟩)
      exact ⟨rfl, rfl, rfl⟩
    | some b =>
      have hb9 := hlt b ha
      rw [ha] at h1 h2
      refine mg_me [] 120 my_283 ms_283 (Nat.le_of_ble_eq_true rfl) ?_
      repeat (first | refine ⟨_, mg_Fs rfl rfl, ?_⟩ | refine ⟨_, mg_Fd rfl rfl, ?_⟩ | refine ⟨Or.inl rfl, ?_⟩ | refine ⟨Or.inr ⟨_, rfl⟩, ?_⟩ | refine ⟨fun _ => ?_, fun h => absurd h (by decide)⟩ | refine ⟨fun h => absurd h (by decide), fun _ => ?_⟩)
      refine mg_cv (r181y d hI hf) (by omega) ?_
      repeat (first | refine ⟨_, mg_Fs rfl rfl, ?_⟩ | refine ⟨_, mg_Fd rfl rfl, ?_⟩ | refine ⟨Or.inl rfl, ?_⟩ | refine ⟨Or.inr ⟨_, rfl⟩, ?_⟩ | refine ⟨fun _ => ?_, fun h => absurd h (by decide)⟩ | refine ⟨fun h => absurd h (by decide), fun _ => ?_⟩)
      refine mg_cv (h1) (by omega) ?_
      refine ⟨fun _ => ?_, fun h => absurd h (mg_n1 (by omega))⟩
      repeat (first | refine ⟨_, mg_Fs rfl rfl, ?_⟩ | refine ⟨_, mg_Fd rfl rfl, ?_⟩ | refine ⟨Or.inl rfl, ?_⟩ | refine ⟨Or.inr ⟨_, rfl⟩, ?_⟩ | refine ⟨fun _ => ?_, fun h => absurd h (by decide)⟩ | refine ⟨fun h => absurd h (by decide), fun _ => ?_⟩)
      refine mg_cv (r176_0 d) (by omega) ?_
      repeat (first | refine ⟨_, mg_Fs rfl rfl, ?_⟩ | refine ⟨_, mg_Fd rfl rfl, ?_⟩ | refine ⟨Or.inl rfl, ?_⟩ | refine ⟨Or.inr ⟨_, rfl⟩, ?_⟩ | refine ⟨fun _ => ?_, fun h => absurd h (by decide)⟩ | refine ⟨fun h => absurd h (by decide), fun _ => ?_⟩)
      refine mg_cv (h2) (by omega) ?_
      exact ⟨Or.inl rfl, rfl, rfl, rfl⟩
theorem r287 (d : Nat) (hI : rI G A) (f g : Int32) : mg_m (mg_KM scr t) (d + 4) 287 [.ref 148, .int f, .int g] G (mg_v (.int (q287 A f g).2) (mg_sF G 148 10 (.int (q287 A f g).1))) := by
  have h8 := hI.v8
  have h12 := hI.f12
  have hp := mg_p256 h8
  unfold q287
  cases hf : vi f (aF A) with
  | none =>
    rw [qF_x hf]
    refine mg_me [] 120 my_287 ms_287 (Nat.le_of_ble_eq_true rfl) ?_
    repeat (first | refine ⟨_, mg_Fs rfl rfl, ?_⟩ | refine ⟨_, mg_Fd rfl rfl, ?_⟩ | refine ⟨Or.inl rfl, ?_⟩ | refine ⟨Or.inr ⟨_, rfl⟩, ?_⟩ | refine ⟨fun _ => ?_, fun h => absurd h (by decide)⟩ | refine ⟨fun h => absurd h (by decide), fun _ => ?_⟩)
    refine mg_cv (r181x d hI hf) (by omega) ?_
    repeat (first | refine ⟨_, mg_Fs rfl rfl, ?_⟩ | refine ⟨_, mg_Fd rfl rfl, ?_⟩ | refine ⟨Or.inl rfl, ?_⟩ | refine ⟨Or.inr ⟨_, rfl⟩, ?_⟩ | refine ⟨fun _ => ?_, fun h => absurd h (by decide)⟩ | refine ⟨fun h => absurd h (by decide), fun _ => ?_⟩)
    refine mg_cv (r176_1 d _ _) (by omega) ?_
    repeat (first | refine ⟨_, mg_Fs rfl rfl, ?_⟩ | refine ⟨_, mg_Fd rfl rfl, ?_⟩ | refine ⟨Or.inl rfl, ?_⟩ | refine ⟨Or.inr ⟨_, rfl⟩, ?_⟩ | refine ⟨fun _ => ?_, fun h => absurd h (by decide)⟩ | refine ⟨fun h => absurd h (by decide), fun _ => ?_⟩)
    exact ⟨Or.inr rfl, rfl, rfl, rfl⟩
  | some i =>
    obtain ⟨rfl, hi⟩ := vi_s hf
    rw [qF_y hf]
    cases hg : vi g (aF A) with
    | none =>
      rw [qF_x hg]
      refine mg_me [] 120 my_287 ms_287 (Nat.le_of_ble_eq_true rfl) ?_
      repeat (first | refine ⟨_, mg_Fs rfl rfl, ?_⟩ | refine ⟨_, mg_Fd rfl rfl, ?_⟩ | refine ⟨Or.inl rfl, ?_⟩ | refine ⟨Or.inr ⟨_, rfl⟩, ?_⟩ | refine ⟨fun _ => ?_, fun h => absurd h (by decide)⟩ | refine ⟨fun h => absurd h (by decide), fun _ => ?_⟩)
      refine mg_cv (r181y d hI hf) (by omega) ?_
      repeat (first | refine ⟨_, mg_Fs rfl rfl, ?_⟩ | refine ⟨_, mg_Fd rfl rfl, ?_⟩ | refine ⟨Or.inl rfl, ?_⟩ | refine ⟨Or.inr ⟨_, rfl⟩, ?_⟩ | refine ⟨fun _ => ?_, fun h => absurd h (by decide)⟩ | refine ⟨fun h => absurd h (by decide), fun _ => ?_⟩)
      refine mg_cv (r181x d hI hg) (by omega) ?_
      repeat (first | refine ⟨_, mg_Fs rfl rfl, ?_⟩ | refine ⟨_, mg_Fd rfl rfl, ?_⟩ | refine ⟨Or.inl rfl, ?_⟩ | refine ⟨Or.inr ⟨_, rfl⟩, ?_⟩ | refine ⟨fun _ => ?_, fun h => absurd h (by decide)⟩ | refine ⟨fun h => absurd h (by decide), fun _ => ?_⟩)
      refine mg_cv (r176_1 d _ _) (by omega) ?_
      repeat (first | refine ⟨_, mg_Fs rfl rfl, ?_⟩ | refine ⟨_, mg_Fd rfl rfl, ?_⟩ | refine ⟨Or.inl rfl, ?_⟩ | refine ⟨Or.inr ⟨_, rfl⟩, ?_⟩ | refine ⟨fun _ => ?_, fun h => absurd h (by decide)⟩ | refine ⟨fun h => absurd h (by decide), fun _ => ?_⟩)
      exact ⟨Or.inr rfl, rfl, rfl, rfl⟩
    | some j =>
      obtain ⟨rfl, hj⟩ := vi_s hg
      rw [qF_y hg]
      refine mg_me [34] 120 my_287 ms_287 (Nat.le_of_ble_eq_true rfl) ?_
      repeat (first | refine ⟨_, mg_Fs rfl rfl, ?_⟩ | refine ⟨_, mg_Fd rfl rfl, ?_⟩ | refine ⟨Or.inl rfl, ?_⟩ | refine ⟨Or.inr ⟨_, rfl⟩, ?_⟩ | refine ⟨fun _ => ?_, fun h => absurd h (by decide)⟩ | refine ⟨fun h => absurd h (by decide), fun _ => ?_⟩)
      refine mg_cv (r181y d hI hf) (by omega) ?_
      repeat (first | refine ⟨_, mg_Fs rfl rfl, ?_⟩ | refine ⟨_, mg_Fd rfl rfl, ?_⟩ | refine ⟨Or.inl rfl, ?_⟩ | refine ⟨Or.inr ⟨_, rfl⟩, ?_⟩ | refine ⟨fun _ => ?_, fun h => absurd h (by decide)⟩ | refine ⟨fun h => absurd h (by decide), fun _ => ?_⟩)
      refine mg_cv (r181y d hI hg) (by omega) ?_
      repeat (first | refine ⟨_, mg_Fs rfl rfl, ?_⟩ | refine ⟨_, mg_Fd rfl rfl, ?_⟩ | refine ⟨Or.inl rfl, ?_⟩ | refine ⟨Or.inr ⟨_, rfl⟩, ?_⟩ | refine ⟨fun _ => ?_, fun h => absurd h (by decide)⟩ | refine ⟨fun h => absurd h (by decide), fun _ => ?_⟩)
      refine mg_cv (r176_0 d) (by omega) ?_
      repeat (first | refine ⟨_, mg_Fs rfl rfl, ?_⟩ | refine ⟨_, mg_Fd rfl rfl, ?_⟩ | refine ⟨Or.inl rfl, ?_⟩ | refine ⟨Or.inr ⟨_, rfl⟩, ?_⟩ | refine ⟨fun _ => ?_, fun h => absurd h (by decide)⟩ | refine ⟨fun h => absurd h (by decide), fun _ => ?_⟩)
      refine mg_loop (2 ^ aV A) (fun k L G' => L = [some (.ref 148), some (.int (Int32.ofNat i)), some (.int (Int32.ofNat j)), some (.int (Int32.ofNat k))] ∧ G' = mg_sF G 148 10 (.int 0) ∧ ∀ l, l < k → (a_at (aT A i) l && !a_at (aT A j) l) = false) ?_ ?_ _ _ ⟨rfl, rfl, fun l h => absurd h (Nat.not_lt_zero _)⟩
      · rintro k L G' hk ⟨rfl, rfl, hI2⟩ ih
        have hI3 : rI (mg_sF G 148 10 (.int 0)) A := hI
        refine mg_go [34] 80 34 ms_287 ?_
        repeat (first | refine ⟨_, mg_Fs rfl rfl, ?_⟩ | refine ⟨_, mg_Fd rfl rfl, ?_⟩ | refine ⟨Or.inl rfl, ?_⟩ | refine ⟨Or.inr ⟨_, rfl⟩, ?_⟩ | refine ⟨fun _ => ?_, fun h => absurd h (by decide)⟩ | refine ⟨fun h => absurd h (by decide), fun _ => ?_⟩)
        refine mg_cv (r183n (d + 1) hI3.v h8) (by omega) ?_
        refine ⟨fun h => absurd h (mg_nle (by omega) (by omega)), fun _ => ?_⟩
        repeat (first | refine ⟨_, mg_Fs rfl rfl, ?_⟩ | refine ⟨_, mg_Fd rfl rfl, ?_⟩ | refine ⟨Or.inl rfl, ?_⟩ | refine ⟨Or.inr ⟨_, rfl⟩, ?_⟩ | refine ⟨fun _ => ?_, fun h => absurd h (by decide)⟩ | refine ⟨fun h => absurd h (by decide), fun _ => ?_⟩)
        refine mg_cv (r192A d hI3 hi hk) (by omega) ?_
        repeat (first | refine ⟨_, mg_Fs rfl rfl, ?_⟩ | refine ⟨_, mg_Fd rfl rfl, ?_⟩ | refine ⟨Or.inl rfl, ?_⟩ | refine ⟨Or.inr ⟨_, rfl⟩, ?_⟩ | refine ⟨fun _ => ?_, fun h => absurd h (by decide)⟩ | refine ⟨fun h => absurd h (by decide), fun _ => ?_⟩)
        refine mg_cv (r192A d hI3 hj hk) (by omega) ?_
        unfold a_atI
        have nx : (a_at (aT A i) k && !a_at (aT A j) k) = false → ∀ l, l < k + 1 → (a_at (aT A i) l && !a_at (aT A j) l) = false := fun h l hl => by
          rcases Nat.lt_or_eq_of_le (Nat.le_of_lt_succ hl) with h9 | rfl
          · exact hI2 l h9
          · exact h
        refine ⟨fun h => ih _ _ ⟨by rw [← mg_inc k], rfl, nx ((mg_ble _ _).mp h)⟩, fun h => ?_⟩
        refine ⟨Or.inr rfl, ?_, rfl, rfl⟩
        rw [a_ff_some hk ((mg_blt _ _).mp h) hI2]
        rfl
      · rintro L G' ⟨rfl, rfl, hI2⟩
        have hI3 : rI (mg_sF G 148 10 (.int 0)) A := hI
        refine mg_go [34] 80 34 ms_287 ?_
        repeat (first | refine ⟨_, mg_Fs rfl rfl, ?_⟩ | refine ⟨_, mg_Fd rfl rfl, ?_⟩ | refine ⟨Or.inl rfl, ?_⟩ | refine ⟨Or.inr ⟨_, rfl⟩, ?_⟩ | refine ⟨fun _ => ?_, fun h => absurd h (by decide)⟩ | refine ⟨fun h => absurd h (by decide), fun _ => ?_⟩)
        refine mg_cv (r183n (d + 1) hI3.v h8) (by omega) ?_
        refine ⟨fun _ => ?_, fun h => absurd h (Int32.not_lt.mpr (Int32.le_refl _))⟩
        refine ⟨Or.inr rfl, ?_, rfl, rfl⟩
        rw [a_ff_none hI2]
        rfl
theorem r288 (d : Nat) (hI : rI G A) (f g : Int32) : mg_m (mg_KM scr t) (d + 4) 288 [.ref 148, .int f, .int g] G (mg_v (.int (q288 A f g).2) (mg_sF G 148 10 (.int (q288 A f g).1))) := by
  have h8 := hI.v8
  have h12 := hI.f12
  have hp := mg_p256 h8
  unfold q288
  cases hf : vi f (aF A) with
  | none =>
    rw [qF_x hf]
    refine mg_me [] 120 my_288 ms_288 (Nat.le_of_ble_eq_true rfl) ?_
    repeat (first | refine ⟨_, mg_Fs rfl rfl, ?_⟩ | refine ⟨_, mg_Fd rfl rfl, ?_⟩ | refine ⟨Or.inl rfl, ?_⟩ | refine ⟨Or.inr ⟨_, rfl⟩, ?_⟩ | refine ⟨fun _ => ?_, fun h => absurd h (by decide)⟩ | refine ⟨fun h => absurd h (by decide), fun _ => ?_⟩)
    refine mg_cv (r181x d hI hf) (by omega) ?_
    repeat (first | refine ⟨_, mg_Fs rfl rfl, ?_⟩ | refine ⟨_, mg_Fd rfl rfl, ?_⟩ | refine ⟨Or.inl rfl, ?_⟩ | refine ⟨Or.inr ⟨_, rfl⟩, ?_⟩ | refine ⟨fun _ => ?_, fun h => absurd h (by decide)⟩ | refine ⟨fun h => absurd h (by decide), fun _ => ?_⟩)
    refine mg_cv (r176_1 d _ _) (by omega) ?_
    repeat (first | refine ⟨_, mg_Fs rfl rfl, ?_⟩ | refine ⟨_, mg_Fd rfl rfl, ?_⟩ | refine ⟨Or.inl rfl, ?_⟩ | refine ⟨Or.inr ⟨_, rfl⟩, ?_⟩ | refine ⟨fun _ => ?_, fun h => absurd h (by decide)⟩ | refine ⟨fun h => absurd h (by decide), fun _ => ?_⟩)
    exact ⟨rfl, rfl, rfl⟩
  | some i =>
    obtain ⟨rfl, hi⟩ := vi_s hf
    rw [qF_y hf]
    cases hg : vi g (aF A) with
    | none =>
      rw [qF_x hg]
      refine mg_me [] 120 my_288 ms_288 (Nat.le_of_ble_eq_true rfl) ?_
      repeat (first | refine ⟨_, mg_Fs rfl rfl, ?_⟩ | refine ⟨_, mg_Fd rfl rfl, ?_⟩ | refine ⟨Or.inl rfl, ?_⟩ | refine ⟨Or.inr ⟨_, rfl⟩, ?_⟩ | refine ⟨fun _ => ?_, fun h => absurd h (by decide)⟩ | refine ⟨fun h => absurd h (by decide), fun _ => ?_⟩)
      refine mg_cv (r181y d hI hf) (by omega) ?_
      repeat (first | refine ⟨_, mg_Fs rfl rfl, ?_⟩ | refine ⟨_, mg_Fd rfl rfl, ?_⟩ | refine ⟨Or.inl rfl, ?_⟩ | refine ⟨Or.inr ⟨_, rfl⟩, ?_⟩ | refine ⟨fun _ => ?_, fun h => absurd h (by decide)⟩ | refine ⟨fun h => absurd h (by decide), fun _ => ?_⟩)
      refine mg_cv (r181x d hI hg) (by omega) ?_
      repeat (first | refine ⟨_, mg_Fs rfl rfl, ?_⟩ | refine ⟨_, mg_Fd rfl rfl, ?_⟩ | refine ⟨Or.inl rfl, ?_⟩ | refine ⟨Or.inr ⟨_, rfl⟩, ?_⟩ | refine ⟨fun _ => ?_, fun h => absurd h (by decide)⟩ | refine ⟨fun h => absurd h (by decide), fun _ => ?_⟩)
      refine mg_cv (r176_1 d _ _) (by omega) ?_
      repeat (first | refine ⟨_, mg_Fs rfl rfl, ?_⟩ | refine ⟨_, mg_Fd rfl rfl, ?_⟩ | refine ⟨Or.inl rfl, ?_⟩ | refine ⟨Or.inr ⟨_, rfl⟩, ?_⟩ | refine ⟨fun _ => ?_, fun h => absurd h (by decide)⟩ | refine ⟨fun h => absurd h (by decide), fun _ => ?_⟩)
      exact ⟨rfl, rfl, rfl⟩
    | some j =>
      obtain ⟨rfl, hj⟩ := vi_s hg
      rw [qF_y hg]
      refine mg_me [34] 120 my_288 ms_288 (Nat.le_of_ble_eq_true rfl) ?_
      repeat (first | refine ⟨_, mg_Fs rfl rfl, ?_⟩ | refine ⟨_, mg_Fd rfl rfl, ?_⟩ | refine ⟨Or.inl rfl, ?_⟩ | refine ⟨Or.inr ⟨_, rfl⟩, ?_⟩ | refine ⟨fun _ => ?_, fun h => absurd h (by decide)⟩ | refine ⟨fun h => absurd h (by decide), fun _ => ?_⟩)
      refine mg_cv (r181y d hI hf) (by omega) ?_
      repeat (first | refine ⟨_, mg_Fs rfl rfl, ?_⟩ | refine ⟨_, mg_Fd rfl rfl, ?_⟩ | refine ⟨Or.inl rfl, ?_⟩ | refine ⟨Or.inr ⟨_, rfl⟩, ?_⟩ | refine ⟨fun _ => ?_, fun h => absurd h (by decide)⟩ | refine ⟨fun h => absurd h (by decide), fun _ => ?_⟩)
      refine mg_cv (r181y d hI hg) (by omega) ?_
      repeat (first | refine ⟨_, mg_Fs rfl rfl, ?_⟩ | refine ⟨_, mg_Fd rfl rfl, ?_⟩ | refine ⟨Or.inl rfl, ?_⟩ | refine ⟨Or.inr ⟨_, rfl⟩, ?_⟩ | refine ⟨fun _ => ?_, fun h => absurd h (by decide)⟩ | refine ⟨fun h => absurd h (by decide), fun _ => ?_⟩)
      refine mg_cv (r176_0 d) (by omega) ?_
      repeat (first | refine ⟨_, mg_Fs rfl rfl, ?_⟩ | refine ⟨_, mg_Fd rfl rfl, ?_⟩ | refine ⟨Or.inl rfl, ?_⟩ | refine ⟨Or.inr ⟨_, rfl⟩, ?_⟩ | refine ⟨fun _ => ?_, fun h => absurd h (by decide)⟩ | refine ⟨fun h => absurd h (by decide), fun _ => ?_⟩)
      refine mg_loop (2 ^ aV A) (fun k L G' => L = [some (.ref 148), some (.int (Int32.ofNat i)), some (.int (Int32.ofNat j)), some (.int (Int32.ofNat k))] ∧ G' = mg_sF G 148 10 (.int 0) ∧ ∀ l, l < k → (a_at (aT A i) l != a_at (aT A j) l) = false) ?_ ?_ _ _ ⟨rfl, rfl, fun l h => absurd h (Nat.not_lt_zero _)⟩
      · rintro k L G' hk ⟨rfl, rfl, hI2⟩ ih
        have hI3 : rI (mg_sF G 148 10 (.int 0)) A := hI
        refine mg_go [34] 80 34 ms_288 ?_
        repeat (first | refine ⟨_, mg_Fs rfl rfl, ?_⟩ | refine ⟨_, mg_Fd rfl rfl, ?_⟩ | refine ⟨Or.inl rfl, ?_⟩ | refine ⟨Or.inr ⟨_, rfl⟩, ?_⟩ | refine ⟨fun _ => ?_, fun h => absurd h (by decide)⟩ | refine ⟨fun h => absurd h (by decide), fun _ => ?_⟩)
        refine mg_cv (r183n (d + 1) hI3.v h8) (by omega) ?_
        refine ⟨fun h => absurd h (mg_nle (by omega) (by omega)), fun _ => ?_⟩
        repeat (first | refine ⟨_, mg_Fs rfl rfl, ?_⟩ | refine ⟨_, mg_Fd rfl rfl, ?_⟩ | refine ⟨Or.inl rfl, ?_⟩ | refine ⟨Or.inr ⟨_, rfl⟩, ?_⟩ | refine ⟨fun _ => ?_, fun h => absurd h (by decide)⟩ | refine ⟨fun h => absurd h (by decide), fun _ => ?_⟩)
        refine mg_cv (r192A d hI3 hi hk) (by omega) ?_
        repeat (first | refine ⟨_, mg_Fs rfl rfl, ?_⟩ | refine ⟨_, mg_Fd rfl rfl, ?_⟩ | refine ⟨Or.inl rfl, ?_⟩ | refine ⟨Or.inr ⟨_, rfl⟩, ?_⟩ | refine ⟨fun _ => ?_, fun h => absurd h (by decide)⟩ | refine ⟨fun h => absurd h (by decide), fun _ => ?_⟩)
        refine mg_cv (r192A d hI3 hj hk) (by omega) ?_
        unfold a_atI
        have nx : (a_at (aT A i) k != a_at (aT A j) k) = false → ∀ l, l < k + 1 → (a_at (aT A i) l != a_at (aT A j) l) = false := fun h l hl => by
          rcases Nat.lt_or_eq_of_le (Nat.le_of_lt_succ hl) with h9 | rfl
          · exact hI2 l h9
          · exact h
        refine ⟨fun h => ih _ _ ⟨by rw [← mg_inc k], rfl, nx (by rw [(mg_bb _ _).mp h]; exact bne_self_eq_false _)⟩, fun h => ?_⟩
        refine ⟨Or.inl rfl, ?_, rfl, rfl⟩
        rw [a_ff_some (P := fun k => a_at (aT A i) k != a_at (aT A j) k) hk (bne_iff_ne.mpr (fun q => h ((mg_bb _ _).mpr q))) hI2]
        rfl
      · rintro L G' ⟨rfl, rfl, hI2⟩
        have hI3 : rI (mg_sF G 148 10 (.int 0)) A := hI
        refine mg_go [34] 80 34 ms_288 ?_
        repeat (first | refine ⟨_, mg_Fs rfl rfl, ?_⟩ | refine ⟨_, mg_Fd rfl rfl, ?_⟩ | refine ⟨Or.inl rfl, ?_⟩ | refine ⟨Or.inr ⟨_, rfl⟩, ?_⟩ | refine ⟨fun _ => ?_, fun h => absurd h (by decide)⟩ | refine ⟨fun h => absurd h (by decide), fun _ => ?_⟩)
        refine mg_cv (r183n (d + 1) hI3.v h8) (by omega) ?_
        refine ⟨fun _ => ?_, fun h => absurd h (Int32.not_lt.mpr (Int32.le_refl _))⟩
        refine ⟨Or.inl rfl, ?_, rfl, rfl⟩
        rw [a_ff_none hI2]
        rfl
theorem r289 (d : Nat) (hI : rI G A) (f : Int32) : mg_m (mg_KM scr t) (d + 4) 289 [.ref 148, .int f] G (mg_v (.int (q289 A f).2) (mg_sF G 148 10 (.int (q289 A f).1))) := by
  have h8 := hI.v8
  have h12 := hI.f12
  have hp := mg_p256 h8
  unfold q289
  cases hf : vi f (aF A) with
  | none =>
    rw [qF_x hf]
    refine mg_me [] 120 my_289 ms_289 (Nat.le_of_ble_eq_true rfl) ?_
    repeat (first | refine ⟨_, mg_Fs rfl rfl, ?_⟩ | refine ⟨_, mg_Fd rfl rfl, ?_⟩ | refine ⟨Or.inl rfl, ?_⟩ | refine ⟨Or.inr ⟨_, rfl⟩, ?_⟩ | refine ⟨fun _ => ?_, fun h => absurd h (by decide)⟩ | refine ⟨fun h => absurd h (by decide), fun _ => ?_⟩)
    refine mg_cv (r181x d hI hf) (by omega) ?_
    repeat (first | refine ⟨_, mg_Fs rfl rfl, ?_⟩ | refine ⟨_, mg_Fd rfl rfl, ?_⟩ | refine ⟨Or.inl rfl, ?_⟩ | refine ⟨Or.inr ⟨_, rfl⟩, ?_⟩ | refine ⟨fun _ => ?_, fun h => absurd h (by decide)⟩ | refine ⟨fun h => absurd h (by decide), fun _ => ?_⟩)
    refine mg_cv (r176_1 d _ _) (by omega) ?_
    repeat (first | refine ⟨_, mg_Fs rfl rfl, ?_⟩ | refine ⟨_, mg_Fd rfl rfl, ?_⟩ | refine ⟨Or.inl rfl, ?_⟩ | refine ⟨Or.inr ⟨_, rfl⟩, ?_⟩ | refine ⟨fun _ => ?_, fun h => absurd h (by decide)⟩ | refine ⟨fun h => absurd h (by decide), fun _ => ?_⟩)
    exact ⟨rfl, rfl, rfl⟩
  | some i =>
    obtain ⟨rfl, hi⟩ := vi_s hf
    rw [qF_y hf]
    refine mg_me [26] 120 my_289 ms_289 (Nat.le_of_ble_eq_true rfl) ?_
    repeat (first | refine ⟨_, mg_Fs rfl rfl, ?_⟩ | refine ⟨_, mg_Fd rfl rfl, ?_⟩ | refine ⟨Or.inl rfl, ?_⟩ | refine ⟨Or.inr ⟨_, rfl⟩, ?_⟩ | refine ⟨fun _ => ?_, fun h => absurd h (by decide)⟩ | refine ⟨fun h => absurd h (by decide), fun _ => ?_⟩)
    refine mg_cv (r181y d hI hf) (by omega) ?_
    repeat (first | refine ⟨_, mg_Fs rfl rfl, ?_⟩ | refine ⟨_, mg_Fd rfl rfl, ?_⟩ | refine ⟨Or.inl rfl, ?_⟩ | refine ⟨Or.inr ⟨_, rfl⟩, ?_⟩ | refine ⟨fun _ => ?_, fun h => absurd h (by decide)⟩ | refine ⟨fun h => absurd h (by decide), fun _ => ?_⟩)
    refine mg_cv (r176_0 d) (by omega) ?_
    repeat (first | refine ⟨_, mg_Fs rfl rfl, ?_⟩ | refine ⟨_, mg_Fd rfl rfl, ?_⟩ | refine ⟨Or.inl rfl, ?_⟩ | refine ⟨Or.inr ⟨_, rfl⟩, ?_⟩ | refine ⟨fun _ => ?_, fun h => absurd h (by decide)⟩ | refine ⟨fun h => absurd h (by decide), fun _ => ?_⟩)
    refine mg_loop (aF A) (fun k L G' => L = [some (.ref 148), some (.int (Int32.ofNat i)), some (.int (Int32.ofNat k))] ∧ G' = mg_sF G 148 10 (.int 0) ∧ ∀ l, l < k → (l != i && decide (aT A i = aT A l)) = false) ?_ ?_ _ _ ⟨rfl, rfl, fun l h => absurd h (Nat.not_lt_zero _)⟩
    · rintro k L G' hk ⟨rfl, rfl, hI2⟩ ih
      have hI3 : rI (mg_sF G 148 10 (.int 0)) A := hI
      have nx : (k != i && decide (aT A i = aT A k)) = false → ∀ l, l < k + 1 → (l != i && decide (aT A i = aT A l)) = false := fun h l hl => by
        rcases Nat.lt_or_eq_of_le (Nat.le_of_lt_succ hl) with h9 | rfl
        · exact hI2 l h9
        · exact h
      refine mg_go [26] 80 26 ms_289 ?_
      repeat (first | refine ⟨_, mg_Fs rfl rfl, ?_⟩ | refine ⟨_, mg_Fd rfl rfl, ?_⟩ | refine ⟨Or.inl rfl, ?_⟩ | refine ⟨Or.inr ⟨_, rfl⟩, ?_⟩ | refine ⟨fun _ => ?_, fun h => absurd h (by decide)⟩ | refine ⟨fun h => absurd h (by decide), fun _ => ?_⟩)
      refine mg_cv (r179n d hI3.f) (by omega) ?_
      refine ⟨fun h => absurd h (mg_nle (by omega) (by omega)), fun _ => ⟨fun h => ?_, fun h => ?_⟩⟩
      · have h := (mg_eqN (by omega) (by omega)).mp h
        exact ih _ _ ⟨by rw [← mg_inc k], rfl, nx (by rw [h, bne_self_eq_false, Bool.false_and])⟩
      · have h : k ≠ i := fun q => h (by rw [q])
        repeat (first | refine ⟨_, mg_Fs rfl rfl, ?_⟩ | refine ⟨_, mg_Fd rfl rfl, ?_⟩ | refine ⟨Or.inl rfl, ?_⟩ | refine ⟨Or.inr ⟨_, rfl⟩, ?_⟩ | refine ⟨fun _ => ?_, fun h => absurd h (by decide)⟩ | refine ⟨fun h => absurd h (by decide), fun _ => ?_⟩)
        refine mg_cv (r193A d hI3 hi hk) (by omega) ?_
        by_cases hE : aT A i = aT A k
        · rw [if_pos hE]
          refine ⟨fun h => absurd h (by decide), fun _ => ⟨Or.inl rfl, ?_, rfl, rfl⟩⟩
          rw [a_ff_some hk (by rw [bne_iff_ne.mpr h, Bool.true_and]; exact decide_eq_true hE) hI2]
          rfl
        · rw [if_neg hE]
          exact ⟨fun _ => ih _ _ ⟨by rw [← mg_inc k], rfl, nx (by rw [decide_eq_false hE, Bool.and_false])⟩, fun h => absurd rfl h⟩
    · rintro L G' ⟨rfl, rfl, hI2⟩
      have hI3 : rI (mg_sF G 148 10 (.int 0)) A := hI
      refine mg_go [26] 80 26 ms_289 ?_
      repeat (first | refine ⟨_, mg_Fs rfl rfl, ?_⟩ | refine ⟨_, mg_Fd rfl rfl, ?_⟩ | refine ⟨Or.inl rfl, ?_⟩ | refine ⟨Or.inr ⟨_, rfl⟩, ?_⟩ | refine ⟨fun _ => ?_, fun h => absurd h (by decide)⟩ | refine ⟨fun h => absurd h (by decide), fun _ => ?_⟩)
      refine mg_cv (r179n d hI3.f) (by omega) ?_
      refine ⟨fun _ => ⟨Or.inl rfl, ?_, rfl, rfl⟩, fun h => absurd h (Int32.not_lt.mpr (Int32.le_refl _))⟩
      rw [a_ff_none hI2]
      rfl
theorem mg_decm (k : Nat) : Int32.ofNat (k + 1) + Int32.ofInt (-1) = Int32.ofNat k := by rw [← mg_inc k, Int32.add_assoc, show Int32.ofInt 1 + Int32.ofInt (-1) = 0 from by decide, Int32.add_zero]
theorem r269 (d f : Nat) (hI : rI G A) (hf : f < aF A) (x : Int32) : mg_m (mg_KM scr t) (d + 3) 269 [.ref 148, .int (Int32.ofNat f), .int x] G (mg_v (.int (a_oi (a_mod A f x))) G) := by
  have h8 := hI.v8
  have hp := mg_p256 h8
  have h0 : 0 < 2 ^ aV A := Nat.pow_pos (by decide)
  unfold a_mod
  by_cases hx : 0 ≤ x.toInt
  · obtain ⟨X, hX, rfl⟩ : ∃ X, X < 2147483648 ∧ x = Int32.ofNat X := ⟨x.toInt.toNat, by
      have := Int32.toInt_lt x
      omega, by
      have := Int32.toInt_lt x
      refine Int32.toInt_inj.mp ?_
      rw [Int32.toInt_ofNat_of_lt (by omega)]
      omega⟩
    refine mg_me [5] 10 my_269 ms_269 (Nat.le_of_ble_eq_true rfl) ?_
    refine mg_loop (2 ^ aV A) (fun k L G' => L = [some (.ref 148), some (.int (Int32.ofNat f)), some (.int (Int32.ofNat X)), some (.int (Int32.ofNat (X - a_cnt (aT A f) k))), some (.int (Int32.ofNat k))] ∧ G' = G ∧ a_cnt (aT A f) k ≤ X ∧ ∀ l, l < k → (a_at (aT A f) l && decide (a_sum (a_atI (aT A f)) l = Int32.ofNat X)) = false) ?_ ?_ _ _ ⟨rfl, rfl, Nat.zero_le _, fun l h => absurd h (Nat.not_lt_zero _)⟩
    · rintro k L G' hk ⟨rfl, rfl, hc, hI2⟩ ih
      have hck := a_cnt_le (aT A f) k
      have nx : (a_at (aT A f) k && decide (a_sum (a_atI (aT A f)) k = Int32.ofNat X)) = false → ∀ l, l < k + 1 → (a_at (aT A f) l && decide (a_sum (a_atI (aT A f)) l = Int32.ofNat X)) = false := fun h l hl => by
        rcases Nat.lt_or_eq_of_le (Nat.le_of_lt_succ hl) with h9 | rfl
        · exact hI2 l h9
        · exact h
      have ec : a_cnt (aT A f) (k + 1) = a_cnt (aT A f) k + (if a_at (aT A f) k then 1 else 0) := rfl
      rw [a_cnt_e] at nx
      rw [ec, ← mg_inc k] at ih
      have hv := r192A (scr := scr) (t := t) d hI hf hk
      cases hb : a_at (aT A f) k with
      | false =>
        have e0 : a_atI (aT A f) k = 0 := by unfold a_atI; rw [hb]; rfl
        rw [e0] at hv
        rw [hb, if_neg (by decide)] at ih
        rw [hb] at nx
        refine mg_go [5] 80 5 ms_269 ?_
        repeat (first | refine ⟨_, mg_Fs rfl rfl, ?_⟩ | refine ⟨_, mg_Fd rfl rfl, ?_⟩ | refine ⟨Or.inl rfl, ?_⟩ | refine ⟨Or.inr ⟨_, rfl⟩, ?_⟩ | refine ⟨fun _ => ?_, fun h => absurd h (by decide)⟩ | refine ⟨fun h => absurd h (by decide), fun _ => ?_⟩)
        refine mg_cv (r183n d hI.v h8) (by omega) ?_
        refine ⟨fun h => absurd h (mg_nle (by omega) (by omega)), fun _ => ⟨fun h => absurd h (mg_nlt (a := 0) (Nat.zero_le _) (by omega)), fun _ => ?_⟩⟩
        repeat (first | refine ⟨_, mg_Fs rfl rfl, ?_⟩ | refine ⟨_, mg_Fd rfl rfl, ?_⟩ | refine ⟨Or.inl rfl, ?_⟩ | refine ⟨Or.inr ⟨_, rfl⟩, ?_⟩ | refine ⟨fun _ => ?_, fun h => absurd h (by decide)⟩ | refine ⟨fun h => absurd h (by decide), fun _ => ?_⟩)
        refine mg_cv (hv) (by omega) ?_
        exact ⟨fun h => absurd rfl h, fun _ => ih _ _ ⟨rfl, rfl, hc, nx rfl⟩⟩
      | true =>
        have e0 : a_atI (aT A f) k = 1 := by unfold a_atI; rw [hb]; rfl
        rw [e0] at hv
        rw [hb, if_pos rfl] at ih
        rw [hb, Bool.true_and] at nx
        refine mg_go [5] 80 5 ms_269 ?_
        repeat (first | refine ⟨_, mg_Fs rfl rfl, ?_⟩ | refine ⟨_, mg_Fd rfl rfl, ?_⟩ | refine ⟨Or.inl rfl, ?_⟩ | refine ⟨Or.inr ⟨_, rfl⟩, ?_⟩ | refine ⟨fun _ => ?_, fun h => absurd h (by decide)⟩ | refine ⟨fun h => absurd h (by decide), fun _ => ?_⟩)
        refine mg_cv (r183n d hI.v h8) (by omega) ?_
        refine ⟨fun h => absurd h (mg_nle (by omega) (by omega)), fun _ => ⟨fun h => absurd h (mg_nlt (a := 0) (Nat.zero_le _) (by omega)), fun _ => ?_⟩⟩
        repeat (first | refine ⟨_, mg_Fs rfl rfl, ?_⟩ | refine ⟨_, mg_Fd rfl rfl, ?_⟩ | refine ⟨Or.inl rfl, ?_⟩ | refine ⟨Or.inr ⟨_, rfl⟩, ?_⟩ | refine ⟨fun _ => ?_, fun h => absurd h (by decide)⟩ | refine ⟨fun h => absurd h (by decide), fun _ => ?_⟩)
        refine mg_cv (hv) (by omega) ?_
        refine ⟨fun _ => ⟨fun h => ?_, fun h => ?_⟩, fun h => absurd h (by decide)⟩
        · have h : a_cnt (aT A f) k ≠ X := fun q => h (by rw [q, Nat.sub_self]; rfl)
          refine ih _ _ ⟨?_, rfl, by omega, nx (decide_eq_false (fun q => h ((mg_eqN (by omega) hX).mp q)))⟩
          obtain ⟨m, hm⟩ : ∃ m, X - a_cnt (aT A f) k = m + 1 := ⟨X - a_cnt (aT A f) k - 1, by omega⟩
          rw [hm, show X - (a_cnt (aT A f) k + 1) = m by omega, ← mg_decm m]
        · have h := (mg_eqN (a := X - a_cnt (aT A f) k) (b := 0) (by omega) (by decide)).mp h
          refine ⟨Or.inl rfl, ?_, rfl, rfl⟩
          rw [a_ff_some hk (by rw [hb, Bool.true_and, a_cnt_e]; exact decide_eq_true (by rw [show a_cnt (aT A f) k = X by omega])) hI2]
          rfl
    · rintro L G' ⟨rfl, rfl, hc, hI2⟩
      refine mg_go [5] 80 5 ms_269 ?_
      repeat (first | refine ⟨_, mg_Fs rfl rfl, ?_⟩ | refine ⟨_, mg_Fd rfl rfl, ?_⟩ | refine ⟨Or.inl rfl, ?_⟩ | refine ⟨Or.inr ⟨_, rfl⟩, ?_⟩ | refine ⟨fun _ => ?_, fun h => absurd h (by decide)⟩ | refine ⟨fun h => absurd h (by decide), fun _ => ?_⟩)
      refine mg_cv (r183n d hI.v h8) (by omega) ?_
      refine ⟨fun _ => ⟨Or.inl rfl, ?_, rfl, rfl⟩, fun h => absurd h (Int32.not_lt.mpr (Int32.le_refl _))⟩
      rw [a_ff_none hI2]
      rfl
  · have hl : x < 0 := Int32.lt_iff_toInt_lt.mpr (by rw [show (0 : Int32).toInt = 0 from by decide]; omega)
    refine mg_me [] 20 my_269 ms_269 (Nat.le_of_ble_eq_true rfl) ?_
    repeat (first | refine ⟨_, mg_Fs rfl rfl, ?_⟩ | refine ⟨_, mg_Fd rfl rfl, ?_⟩ | refine ⟨Or.inl rfl, ?_⟩ | refine ⟨Or.inr ⟨_, rfl⟩, ?_⟩ | refine ⟨fun _ => ?_, fun h => absurd h (by decide)⟩ | refine ⟨fun h => absurd h (by decide), fun _ => ?_⟩)
    refine mg_cv (r183n d hI.v h8) (by omega) ?_
    refine ⟨fun h => absurd h (mg_nle (a := 0) h0 (by omega)), fun _ => ⟨fun _ => ⟨Or.inl rfl, ?_, rfl, rfl⟩, fun h => absurd hl (Int32.not_lt.mpr h)⟩⟩
    rw [a_ff_none fun l hl2 => by
      rw [a_cnt_e, decide_eq_false, Bool.and_false]
      intro q
      have := a_cnt_le (aT A f) l
      rw [← q, Int32.toInt_ofNat_of_lt (by omega)] at hx
      omega]
    rfl
theorem a_mod_lt {A : a_A} {f b : Nat} {x : Int32} (h : a_mod A f x = some b) : b < 2 ^ aV A := by
  unfold a_mod at h
  rcases a_ff_is (fun k => a_at (aT A f) k && decide (a_sum (a_atI (aT A f)) k = x)) (2 ^ aV A) with ⟨k, h1, h2, -, -⟩ | ⟨h1, -⟩
  · rw [h2] at h
    have := Option.some.inj h
    omega
  · rw [h1] at h
    cases h
theorem r270 (d : Nat) (hI : rI G A) (f x : Int32) : mg_m (mg_KM scr t) (d + 4) 270 [.ref 148, .int f, .int x] G (mg_v (.int (q270 A f x).2) (mg_sF G 148 10 (.int (q270 A f x).1))) := by
  have h8 := hI.v8
  have h12 := hI.f12
  have hp := mg_p256 h8
  unfold q270
  cases hf : vi f (aF A) with
  | none =>
    rw [qF_x hf]
    refine mg_me [] 120 my_270 ms_270 (Nat.le_of_ble_eq_true rfl) ?_
    repeat (first | refine ⟨_, mg_Fs rfl rfl, ?_⟩ | refine ⟨_, mg_Fd rfl rfl, ?_⟩ | refine ⟨Or.inl rfl, ?_⟩ | refine ⟨Or.inr ⟨_, rfl⟩, ?_⟩ | refine ⟨fun _ => ?_, fun h => absurd h (by decide)⟩ | refine ⟨fun h => absurd h (by decide), fun _ => ?_⟩)
    refine mg_cv (r181x d hI hf) (by omega) ?_
    repeat (first | refine ⟨_, mg_Fs rfl rfl, ?_⟩ | refine ⟨_, mg_Fd rfl rfl, ?_⟩ | refine ⟨Or.inl rfl, ?_⟩ | refine ⟨Or.inr ⟨_, rfl⟩, ?_⟩ | refine ⟨fun _ => ?_, fun h => absurd h (by decide)⟩ | refine ⟨fun h => absurd h (by decide), fun _ => ?_⟩)
    refine mg_cv (r176_1 d _ _) (by omega) ?_
    repeat (first | refine ⟨_, mg_Fs rfl rfl, ?_⟩ | refine ⟨_, mg_Fd rfl rfl, ?_⟩ | refine ⟨Or.inl rfl, ?_⟩ | refine ⟨Or.inr ⟨_, rfl⟩, ?_⟩ | refine ⟨fun _ => ?_, fun h => absurd h (by decide)⟩ | refine ⟨fun h => absurd h (by decide), fun _ => ?_⟩)
    exact ⟨rfl, rfl, rfl⟩
  | some i =>
    obtain ⟨rfl, hi⟩ := vi_s hf
    rw [qF_y hf]
    have h1 := r269 (scr := scr) (t := t) d i hI hi x
    have h2 := r269 (scr := scr) (t := t) d i (show rI (mg_sF G 148 10 (.int 0)) A from hI) hi x
    cases ha : a_mod A i x with
    | none =>
      rw [ha] at h1
      refine mg_me [] 120 my_270 ms_270 (Nat.le_of_ble_eq_true rfl) ?_
      repeat (first | refine ⟨_, mg_Fs rfl rfl, ?_⟩ | refine ⟨_, mg_Fd rfl rfl, ?_⟩ | refine ⟨Or.inl rfl, ?_⟩ | refine ⟨Or.inr ⟨_, rfl⟩, ?_⟩ | refine ⟨fun _ => ?_, fun h => absurd h (by decide)⟩ | refine ⟨fun h => absurd h (by decide), fun _ => ?_⟩)
      refine mg_cv (r181y d hI hf) (by omega) ?_
      repeat (first | refine ⟨_, mg_Fs rfl rfl, ?_⟩ | refine ⟨_, mg_Fd rfl rfl, ?_⟩ | refine ⟨Or.inl rfl, ?_⟩ | refine ⟨Or.inr ⟨_, rfl⟩, ?_⟩ | refine ⟨fun _ => ?_, fun h => absurd h (by decide)⟩ | refine ⟨fun h => absurd h (by decide), fun _ => ?_⟩)
      refine mg_cv (h1) (by omega) ?_
      repeat (first | refine ⟨_, mg_Fs rfl rfl, ?_⟩ | refine ⟨_, mg_Fd rfl rfl, ?_⟩ | refine ⟨Or.inl rfl, ?_⟩ | refine ⟨Or.inr ⟨_, rfl⟩, ?_⟩ | refine ⟨fun _ => ?_, fun h => absurd h (by decide)⟩ | refine ⟨fun h => absurd h (by decide), fun _ => ?_⟩)
      refine mg_cv (r176_2 d _) (by omega) ?_
      repeat (first | refine ⟨_, mg_Fs rfl rfl, ?_⟩ | refine ⟨_, mg_Fd rfl rfl, ?_⟩ | refine ⟨Or.inl rfl, ?_⟩ | refine ⟨Or.inr ⟨_, rfl⟩, ?_⟩ | refine ⟨fun _ => ?_, fun h => absurd h (by decide)⟩ | refine ⟨fun h => absurd h (by decide), fun _ => ?_⟩)
      exact ⟨rfl, rfl, rfl⟩
    | some b =>
      have hb9 := a_mod_lt ha
      rw [ha] at h1 h2
      refine mg_me [] 120 my_270 ms_270 (Nat.le_of_ble_eq_true rfl) ?_
      repeat (first | refine ⟨_, mg_Fs rfl rfl, ?_⟩ | refine ⟨_, mg_Fd rfl rfl, ?_⟩ | refine ⟨Or.inl rfl, ?_⟩ | refine ⟨Or.inr ⟨_, rfl⟩, ?_⟩ | refine ⟨fun _ => ?_, fun h => absurd h (by decide)⟩ | refine ⟨fun h => absurd h (by decide), fun _ => ?_⟩)
      refine mg_cv (r181y d hI hf) (by omega) ?_
      repeat (first | refine ⟨_, mg_Fs rfl rfl, ?_⟩ | refine ⟨_, mg_Fd rfl rfl, ?_⟩ | refine ⟨Or.inl rfl, ?_⟩ | refine ⟨Or.inr ⟨_, rfl⟩, ?_⟩ | refine ⟨fun _ => ?_, fun h => absurd h (by decide)⟩ | refine ⟨fun h => absurd h (by decide), fun _ => ?_⟩)
      refine mg_cv (h1) (by omega) ?_
      refine ⟨fun _ => ?_, fun h => absurd h (mg_n1 (by omega))⟩
      repeat (first | refine ⟨_, mg_Fs rfl rfl, ?_⟩ | refine ⟨_, mg_Fd rfl rfl, ?_⟩ | refine ⟨Or.inl rfl, ?_⟩ | refine ⟨Or.inr ⟨_, rfl⟩, ?_⟩ | refine ⟨fun _ => ?_, fun h => absurd h (by decide)⟩ | refine ⟨fun h => absurd h (by decide), fun _ => ?_⟩)
      refine mg_cv (r176_0 d) (by omega) ?_
      repeat (first | refine ⟨_, mg_Fs rfl rfl, ?_⟩ | refine ⟨_, mg_Fd rfl rfl, ?_⟩ | refine ⟨Or.inl rfl, ?_⟩ | refine ⟨Or.inr ⟨_, rfl⟩, ?_⟩ | refine ⟨fun _ => ?_, fun h => absurd h (by decide)⟩ | refine ⟨fun h => absurd h (by decide), fun _ => ?_⟩)
      refine mg_cv (h2) (by omega) ?_
      exact ⟨Or.inl rfl, rfl, rfl, rfl⟩
theorem a_rise_s (T : a_T) (v n : Nat) (x : Bool) : a_rise T v (n + 1) x = (a_rise T v n x || a_stp T v x n) := by
  unfold a_rise
  rw [a_ff_s]
  cases a_ff (fun k => a_stp T v x k) n with
  | none => cases a_stp T v x n <;> rfl
  | some k => rfl
theorem a_pol1 : ∀ a b, a_pol a b ||| Int32.ofInt 1 = a_pol true b := by decide
theorem a_pol2 : ∀ a b, a_pol a b ||| Int32.ofInt 2 = a_pol a true := by decide
theorem r272 (d : Nat) (hI : rI G A) (f v : Int32) : mg_m (mg_KM scr t) (d + 4) 272 [.ref 148, .int f, .int v] G (mg_v (.int (q272 A f v).2) (mg_sF G 148 10 (.int (q272 A f v).1))) := by
  have h8 := hI.v8
  have h12 := hI.f12
  have hp := mg_p256 h8
  unfold q272
  cases hf : vi f (aF A) with
  | none =>
    rw [qF_x hf]
    refine mg_me [] 120 my_272 ms_272 (Nat.le_of_ble_eq_true rfl) ?_
    repeat (first | refine ⟨_, mg_Fs rfl rfl, ?_⟩ | refine ⟨_, mg_Fd rfl rfl, ?_⟩ | refine ⟨Or.inl rfl, ?_⟩ | refine ⟨Or.inr ⟨_, rfl⟩, ?_⟩ | refine ⟨fun _ => ?_, fun h => absurd h (by decide)⟩ | refine ⟨fun h => absurd h (by decide), fun _ => ?_⟩)
    refine mg_cv (r181x d hI hf) (by omega) ?_
    repeat (first | refine ⟨_, mg_Fs rfl rfl, ?_⟩ | refine ⟨_, mg_Fd rfl rfl, ?_⟩ | refine ⟨Or.inl rfl, ?_⟩ | refine ⟨Or.inr ⟨_, rfl⟩, ?_⟩ | refine ⟨fun _ => ?_, fun h => absurd h (by decide)⟩ | refine ⟨fun h => absurd h (by decide), fun _ => ?_⟩)
    refine mg_cv (r176_1 d _ _) (by omega) ?_
    repeat (first | refine ⟨_, mg_Fs rfl rfl, ?_⟩ | refine ⟨_, mg_Fd rfl rfl, ?_⟩ | refine ⟨Or.inl rfl, ?_⟩ | refine ⟨Or.inr ⟨_, rfl⟩, ?_⟩ | refine ⟨fun _ => ?_, fun h => absurd h (by decide)⟩ | refine ⟨fun h => absurd h (by decide), fun _ => ?_⟩)
    exact ⟨rfl, rfl, rfl⟩
  | some i =>
    obtain ⟨rfl, hi⟩ := vi_s hf
    rw [qF_y hf]
    cases hg : vi v (aV A) with
    | none =>
      rw [qV_x hg]
      refine mg_me [] 120 my_272 ms_272 (Nat.le_of_ble_eq_true rfl) ?_
      repeat (first | refine ⟨_, mg_Fs rfl rfl, ?_⟩ | refine ⟨_, mg_Fd rfl rfl, ?_⟩ | refine ⟨Or.inl rfl, ?_⟩ | refine ⟨Or.inr ⟨_, rfl⟩, ?_⟩ | refine ⟨fun _ => ?_, fun h => absurd h (by decide)⟩ | refine ⟨fun h => absurd h (by decide), fun _ => ?_⟩)
      refine mg_cv (r181y d hI hf) (by omega) ?_
      repeat (first | refine ⟨_, mg_Fs rfl rfl, ?_⟩ | refine ⟨_, mg_Fd rfl rfl, ?_⟩ | refine ⟨Or.inl rfl, ?_⟩ | refine ⟨Or.inr ⟨_, rfl⟩, ?_⟩ | refine ⟨fun _ => ?_, fun h => absurd h (by decide)⟩ | refine ⟨fun h => absurd h (by decide), fun _ => ?_⟩)
      refine mg_cv (r180x d hI hg) (by omega) ?_
      repeat (first | refine ⟨_, mg_Fs rfl rfl, ?_⟩ | refine ⟨_, mg_Fd rfl rfl, ?_⟩ | refine ⟨Or.inl rfl, ?_⟩ | refine ⟨Or.inr ⟨_, rfl⟩, ?_⟩ | refine ⟨fun _ => ?_, fun h => absurd h (by decide)⟩ | refine ⟨fun h => absurd h (by decide), fun _ => ?_⟩)
      refine mg_cv (r176_1 d _ _) (by omega) ?_
      repeat (first | refine ⟨_, mg_Fs rfl rfl, ?_⟩ | refine ⟨_, mg_Fd rfl rfl, ?_⟩ | refine ⟨Or.inl rfl, ?_⟩ | refine ⟨Or.inr ⟨_, rfl⟩, ?_⟩ | refine ⟨fun _ => ?_, fun h => absurd h (by decide)⟩ | refine ⟨fun h => absurd h (by decide), fun _ => ?_⟩)
      exact ⟨rfl, rfl, rfl⟩
    | some j =>
      obtain ⟨rfl, hj⟩ := vi_s hg
      rw [qV_y hg]
      refine mg_me [37] 120 my_272 ms_272 (Nat.le_of_ble_eq_true rfl) ?_
      repeat (first | refine ⟨_, mg_Fs rfl rfl, ?_⟩ | refine ⟨_, mg_Fd rfl rfl, ?_⟩ | refine ⟨Or.inl rfl, ?_⟩ | refine ⟨Or.inr ⟨_, rfl⟩, ?_⟩ | refine ⟨fun _ => ?_, fun h => absurd h (by decide)⟩ | refine ⟨fun h => absurd h (by decide), fun _ => ?_⟩)
      refine mg_cv (r181y d hI hf) (by omega) ?_
      repeat (first | refine ⟨_, mg_Fs rfl rfl, ?_⟩ | refine ⟨_, mg_Fd rfl rfl, ?_⟩ | refine ⟨Or.inl rfl, ?_⟩ | refine ⟨Or.inr ⟨_, rfl⟩, ?_⟩ | refine ⟨fun _ => ?_, fun h => absurd h (by decide)⟩ | refine ⟨fun h => absurd h (by decide), fun _ => ?_⟩)
      refine mg_cv (r180y d hI hg) (by omega) ?_
      repeat (first | refine ⟨_, mg_Fs rfl rfl, ?_⟩ | refine ⟨_, mg_Fd rfl rfl, ?_⟩ | refine ⟨Or.inl rfl, ?_⟩ | refine ⟨Or.inr ⟨_, rfl⟩, ?_⟩ | refine ⟨fun _ => ?_, fun h => absurd h (by decide)⟩ | refine ⟨fun h => absurd h (by decide), fun _ => ?_⟩)
      refine mg_cv (r176_0 d) (by omega) ?_
      repeat (first | refine ⟨_, mg_Fs rfl rfl, ?_⟩ | refine ⟨_, mg_Fd rfl rfl, ?_⟩ | refine ⟨Or.inl rfl, ?_⟩ | refine ⟨Or.inr ⟨_, rfl⟩, ?_⟩ | refine ⟨fun _ => ?_, fun h => absurd h (by decide)⟩ | refine ⟨fun h => absurd h (by decide), fun _ => ?_⟩)
      refine mg_loop (2 ^ aV A) (fun k L G' => (∃ c, L = [some (.ref 148), some (.int (Int32.ofNat i)), some (.int (Int32.ofNat j)), some (.int (a_pol (a_rise (aT A i) j k false) (a_rise (aT A i) j k true))), some (.int (Int32.ofNat k)), c]) ∧ G' = mg_sF G 148 10 (.int 0)) ?_ ?_ _ _ ⟨⟨none, by rw [show a_pol (a_rise (aT A i) j 0 false) (a_rise (aT A i) j 0 true) = Int32.ofInt 0 from (show a_pol false false = Int32.ofInt 0 from by decide)] <;> rfl⟩, rfl⟩
      · rintro k L G' hk ⟨⟨c, rfl⟩, rfl⟩ ih
        have hI3 : rI (mg_sF G 148 10 (.int 0)) A := hI
        have hs := (a_sb_b (aV A) h8 j hj k hk).1
        have hc := r192A (scr := scr) (t := t) d hI3 hi hs
        rw [← mg_aor j (by omega) k (by omega)] at hc
        rw [a_rise_s, a_rise_s, ← mg_inc k] at ih
        refine mg_go [37] 80 37 ms_272 ?_
        repeat (first | refine ⟨_, mg_Fs rfl rfl, ?_⟩ | refine ⟨_, mg_Fd rfl rfl, ?_⟩ | refine ⟨Or.inl rfl, ?_⟩ | refine ⟨Or.inr ⟨_, rfl⟩, ?_⟩ | refine ⟨fun _ => ?_, fun h => absurd h (by decide)⟩ | refine ⟨fun h => absurd h (by decide), fun _ => ?_⟩)
        refine mg_cv (r183n (d + 1) hI3.v h8) (by omega) ?_
        refine ⟨fun h => absurd h (mg_nle (by omega) (by omega)), fun _ => ?_⟩
        have hab := mg_abit j (by omega) k (by omega)
        have e0 : a_stp (aT A i) j false k = (!k.testBit j && !a_at (aT A i) k && a_at (aT A i) (a_sb k j true)) := by
          unfold a_stp
          cases k.testBit j <;> cases a_at (aT A i) k <;> cases a_at (aT A i) (a_sb k j true) <;> rfl
        have e1 : a_stp (aT A i) j true k = (!k.testBit j && a_at (aT A i) k && !a_at (aT A i) (a_sb k j true)) := by
          unfold a_stp
          cases k.testBit j <;> cases a_at (aT A i) k <;> cases a_at (aT A i) (a_sb k j true) <;> rfl
        rw [e0, e1] at ih
        cases hb : k.testBit j with
        | true =>
          rw [hb] at ih hab
          refine ⟨fun h => absurd hab h, fun _ => ih _ _ ⟨⟨_, by rw [Bool.not_true, Bool.false_and, Bool.false_and, Bool.or_false, Bool.false_and, Bool.false_and, Bool.or_false]⟩, rfl⟩⟩
        | false =>
          rw [hb, Bool.not_false, Bool.true_and, Bool.true_and] at ih
          rw [hb] at hab
          refine ⟨fun _ => ?_, fun h => absurd (hab.symm.trans h) (by decide)⟩
          repeat (first | refine ⟨_, mg_Fs rfl rfl, ?_⟩ | refine ⟨_, mg_Fd rfl rfl, ?_⟩ | refine ⟨Or.inl rfl, ?_⟩ | refine ⟨Or.inr ⟨_, rfl⟩, ?_⟩ | refine ⟨fun _ => ?_, fun h => absurd h (by decide)⟩ | refine ⟨fun h => absurd h (by decide), fun _ => ?_⟩)
          refine mg_cv (hc) (by omega) ?_
          repeat (first | refine ⟨_, mg_Fs rfl rfl, ?_⟩ | refine ⟨_, mg_Fd rfl rfl, ?_⟩ | refine ⟨Or.inl rfl, ?_⟩ | refine ⟨Or.inr ⟨_, rfl⟩, ?_⟩ | refine ⟨fun _ => ?_, fun h => absurd h (by decide)⟩ | refine ⟨fun h => absurd h (by decide), fun _ => ?_⟩)
          refine mg_cv (r192A d hI3 hi hk) (by omega) ?_
          unfold a_atI
          cases b0 : a_at (aT A i) k with
          | false =>
            rw [b0] at ih
            cases b1 : a_at (aT A i) (a_sb k j true) with
            | false =>
              rw [b1] at ih
              exact ⟨fun _ => ⟨fun _ => ih _ _ ⟨⟨_, by rw [Bool.not_false, Bool.true_and, Bool.or_false, Bool.false_and, Bool.or_false] <;> rfl⟩, rfl⟩, fun h => absurd h (by decide)⟩, fun h => absurd h (by decide)⟩
            | true =>
              rw [b1] at ih
              exact ⟨fun h => absurd h (by decide), fun _ => ⟨fun _ => ih _ _ ⟨⟨_, by dsimp only; rw [a_pol1, Bool.not_false, Bool.true_and, Bool.or_true, Bool.false_and, Bool.or_false] <;> rfl⟩, rfl⟩, fun h => absurd h (by decide)⟩⟩
          | true =>
            rw [b0] at ih
            cases b1 : a_at (aT A i) (a_sb k j true) with
            | false =>
              rw [b1] at ih
              exact ⟨fun _ => ⟨fun h => absurd h (by decide), fun _ => ih _ _ ⟨⟨_, by dsimp only; rw [a_pol2, Bool.not_true, Bool.false_and, Bool.or_false, Bool.not_false, Bool.true_and, Bool.or_true] <;> rfl⟩, rfl⟩⟩, fun h => absurd h (by decide)⟩
            | true =>
              rw [b1] at ih
              exact ⟨fun _ => ⟨fun _ => ih _ _ ⟨⟨_, by rw [Bool.not_true, Bool.false_and, Bool.or_false, Bool.and_false, Bool.or_false] <;> rfl⟩, rfl⟩, fun h => absurd h (by decide)⟩, fun h => absurd h (by decide)⟩
      · rintro L G' ⟨⟨c, rfl⟩, rfl⟩
        have hI3 : rI (mg_sF G 148 10 (.int 0)) A := hI
        refine mg_go [37] 80 37 ms_272 ?_
        repeat (first | refine ⟨_, mg_Fs rfl rfl, ?_⟩ | refine ⟨_, mg_Fd rfl rfl, ?_⟩ | refine ⟨Or.inl rfl, ?_⟩ | refine ⟨Or.inr ⟨_, rfl⟩, ?_⟩ | refine ⟨fun _ => ?_, fun h => absurd h (by decide)⟩ | refine ⟨fun h => absurd h (by decide), fun _ => ?_⟩)
        refine mg_cv (r183n (d + 1) hI3.v h8) (by omega) ?_
        exact ⟨fun _ => ⟨Or.inl rfl, rfl, rfl, rfl⟩, fun h => absurd h (Int32.not_lt.mpr (Int32.le_refl _))⟩
theorem r273 (d : Nat) (hI : rI G A) (f v : Int32) : mg_m (mg_KM scr t) (d + 4) 273 [.ref 148, .int f, .int v] G (mg_v (.int (q273 A f v).2) (mg_sF G 148 10 (.int (q273 A f v).1))) := by
  have h8 := hI.v8
  have h12 := hI.f12
  have hp := mg_p256 h8
  unfold q273
  cases hf : vi f (aF A) with
  | none =>
    rw [qF_x hf]
    refine mg_me [] 120 my_273 ms_273 (Nat.le_of_ble_eq_true rfl) ?_
    repeat (first | refine ⟨_, mg_Fs rfl rfl, ?_⟩ | refine ⟨_, mg_Fd rfl rfl, ?_⟩ | refine ⟨Or.inl rfl, ?_⟩ | refine ⟨Or.inr ⟨_, rfl⟩, ?_⟩ | refine ⟨fun _ => ?_, fun h => absurd h (by decide)⟩ | refine ⟨fun h => absurd h (by decide), fun _ => ?_⟩)
    refine mg_cv (r181x d hI hf) (by omega) ?_
    repeat (first | refine ⟨_, mg_Fs rfl rfl, ?_⟩ | refine ⟨_, mg_Fd rfl rfl, ?_⟩ | refine ⟨Or.inl rfl, ?_⟩ | refine ⟨Or.inr ⟨_, rfl⟩, ?_⟩ | refine ⟨fun _ => ?_, fun h => absurd h (by decide)⟩ | refine ⟨fun h => absurd h (by decide), fun _ => ?_⟩)
    refine mg_cv (r176_1 d _ _) (by omega) ?_
    repeat (first | refine ⟨_, mg_Fs rfl rfl, ?_⟩ | refine ⟨_, mg_Fd rfl rfl, ?_⟩ | refine ⟨Or.inl rfl, ?_⟩ | refine ⟨Or.inr ⟨_, rfl⟩, ?_⟩ | refine ⟨fun _ => ?_, fun h => absurd h (by decide)⟩ | refine ⟨fun h => absurd h (by decide), fun _ => ?_⟩)
    exact ⟨rfl, rfl, rfl⟩
  | some i =>
    obtain ⟨rfl, hi⟩ := vi_s hf
    rw [qF_y hf]
    cases hg : vi v (aV A) with
    | none =>
      rw [qV_x hg]
      refine mg_me [] 120 my_273 ms_273 (Nat.le_of_ble_eq_true rfl) ?_
      repeat (first | refine ⟨_, mg_Fs rfl rfl, ?_⟩ | refine ⟨_, mg_Fd rfl rfl, ?_⟩ | refine ⟨Or.inl rfl, ?_⟩ | refine ⟨Or.inr ⟨_, rfl⟩, ?_⟩ | refine ⟨fun _ => ?_, fun h => absurd h (by decide)⟩ | refine ⟨fun h => absurd h (by decide), fun _ => ?_⟩)
      refine mg_cv (r181y d hI hf) (by omega) ?_
      repeat (first | refine ⟨_, mg_Fs rfl rfl, ?_⟩ | refine ⟨_, mg_Fd rfl rfl, ?_⟩ | refine ⟨Or.inl rfl, ?_⟩ | refine ⟨Or.inr ⟨_, rfl⟩, ?_⟩ | refine ⟨fun _ => ?_, fun h => absurd h (by decide)⟩ | refine ⟨fun h => absurd h (by decide), fun _ => ?_⟩)
      refine mg_cv (r180x d hI hg) (by omega) ?_
      repeat (first | refine ⟨_, mg_Fs rfl rfl, ?_⟩ | refine ⟨_, mg_Fd rfl rfl, ?_⟩ | refine ⟨Or.inl rfl, ?_⟩ | refine ⟨Or.inr ⟨_, rfl⟩, ?_⟩ | refine ⟨fun _ => ?_, fun h => absurd h (by decide)⟩ | refine ⟨fun h => absurd h (by decide), fun _ => ?_⟩)
      refine mg_cv (r176_1 d _ _) (by omega) ?_
      repeat (first | refine ⟨_, mg_Fs rfl rfl, ?_⟩ | refine ⟨_, mg_Fd rfl rfl, ?_⟩ | refine ⟨Or.inl rfl, ?_⟩ | refine ⟨Or.inr ⟨_, rfl⟩, ?_⟩ | refine ⟨fun _ => ?_, fun h => absurd h (by decide)⟩ | refine ⟨fun h => absurd h (by decide), fun _ => ?_⟩)
      exact ⟨rfl, rfl, rfl⟩
    | some j =>
      obtain ⟨rfl, hj⟩ := vi_s hg
      rw [qV_y hg]
      refine mg_me [37] 120 my_273 ms_273 (Nat.le_of_ble_eq_true rfl) ?_
      repeat (first | refine ⟨_, mg_Fs rfl rfl, ?_⟩ | refine ⟨_, mg_Fd rfl rfl, ?_⟩ | refine ⟨Or.inl rfl, ?_⟩ | refine ⟨Or.inr ⟨_, rfl⟩, ?_⟩ | refine ⟨fun _ => ?_, fun h => absurd h (by decide)⟩ | refine ⟨fun h => absurd h (by decide), fun _ => ?_⟩)
      refine mg_cv (r181y d hI hf) (by omega) ?_
      repeat (first | refine ⟨_, mg_Fs rfl rfl, ?_⟩ | refine ⟨_, mg_Fd rfl rfl, ?_⟩ | refine ⟨Or.inl rfl, ?_⟩ | refine ⟨Or.inr ⟨_, rfl⟩, ?_⟩ | refine ⟨fun _ => ?_, fun h => absurd h (by decide)⟩ | refine ⟨fun h => absurd h (by decide), fun _ => ?_⟩)
      refine mg_cv (r180y d hI hg) (by omega) ?_
      repeat (first | refine ⟨_, mg_Fs rfl rfl, ?_⟩ | refine ⟨_, mg_Fd rfl rfl, ?_⟩ | refine ⟨Or.inl rfl, ?_⟩ | refine ⟨Or.inr ⟨_, rfl⟩, ?_⟩ | refine ⟨fun _ => ?_, fun h => absurd h (by decide)⟩ | refine ⟨fun h => absurd h (by decide), fun _ => ?_⟩)
      refine mg_cv (r176_0 d) (by omega) ?_
      repeat (first | refine ⟨_, mg_Fs rfl rfl, ?_⟩ | refine ⟨_, mg_Fd rfl rfl, ?_⟩ | refine ⟨Or.inl rfl, ?_⟩ | refine ⟨Or.inr ⟨_, rfl⟩, ?_⟩ | refine ⟨fun _ => ?_, fun h => absurd h (by decide)⟩ | refine ⟨fun h => absurd h (by decide), fun _ => ?_⟩)
      refine mg_loop (2 ^ aV A) (fun k L G' => L = [some (.ref 148), some (.int (Int32.ofNat i)), some (.int (Int32.ofNat j)), some (.int (a_sum (fun k => if a_at (aT A i) k = a_at (aT A i) (a_sb k j (!k.testBit j)) then 0 else 1) k)), some (.int (Int32.ofNat k))] ∧ G' = mg_sF G 148 10 (.int 0)) ?_ ?_ _ _ ⟨rfl, rfl⟩
      · rintro k L G' hk ⟨rfl, rfl⟩ ih
        have hI3 : rI (mg_sF G 148 10 (.int 0)) A := hI
        have hs : a_sb k j (!k.testBit j) < 2 ^ aV A := by
          have := a_sb_b (aV A) h8 j hj k hk
          cases k.testBit j
          · exact this.1
          · exact this.2
        have hc := r192A (scr := scr) (t := t) d hI3 hi hs
        rw [← mg_axor j (by omega) k (by omega)] at hc
        rw [← mg_inc k] at ih
        refine mg_go [37] 80 37 ms_273 ?_
        repeat (first | refine ⟨_, mg_Fs rfl rfl, ?_⟩ | refine ⟨_, mg_Fd rfl rfl, ?_⟩ | refine ⟨Or.inl rfl, ?_⟩ | refine ⟨Or.inr ⟨_, rfl⟩, ?_⟩ | refine ⟨fun _ => ?_, fun h => absurd h (by decide)⟩ | refine ⟨fun h => absurd h (by decide), fun _ => ?_⟩)
        refine mg_cv (r183n (d + 1) hI3.v h8) (by omega) ?_
        refine ⟨fun h => absurd h (mg_nle (by omega) (by omega)), fun _ => ?_⟩
        repeat (first | refine ⟨_, mg_Fs rfl rfl, ?_⟩ | refine ⟨_, mg_Fd rfl rfl, ?_⟩ | refine ⟨Or.inl rfl, ?_⟩ | refine ⟨Or.inr ⟨_, rfl⟩, ?_⟩ | refine ⟨fun _ => ?_, fun h => absurd h (by decide)⟩ | refine ⟨fun h => absurd h (by decide), fun _ => ?_⟩)
        refine mg_cv (r192A d hI3 hi hk) (by omega) ?_
        repeat (first | refine ⟨_, mg_Fs rfl rfl, ?_⟩ | refine ⟨_, mg_Fd rfl rfl, ?_⟩ | refine ⟨Or.inl rfl, ?_⟩ | refine ⟨Or.inr ⟨_, rfl⟩, ?_⟩ | refine ⟨fun _ => ?_, fun h => absurd h (by decide)⟩ | refine ⟨fun h => absurd h (by decide), fun _ => ?_⟩)
        refine mg_cv (hc) (by omega) ?_
        unfold a_atI
        refine ⟨fun h => ?_, fun h => ?_⟩
        · exact ih _ _ ⟨by show (_ : mm_L) = [_, _, _, some (.int (a_sum (fun k => if a_at (aT A i) k = a_at (aT A i) (a_sb k j (!k.testBit j)) then 0 else 1) k + (if a_at (aT A i) k = a_at (aT A i) (a_sb k j (!k.testBit j)) then 0 else 1))), _]; rw [if_pos ((mg_bb _ _).mp h)]; rfl, rfl⟩
        · exact ih _ _ ⟨by show (_ : mm_L) = [_, _, _, some (.int (a_sum (fun k => if a_at (aT A i) k = a_at (aT A i) (a_sb k j (!k.testBit j)) then 0 else 1) k + (if a_at (aT A i) k = a_at (aT A i) (a_sb k j (!k.testBit j)) then 0 else 1))), _]; rw [if_neg (fun q => h ((mg_bb _ _).mpr q))]; rfl, rfl⟩
      · rintro L G' ⟨rfl, rfl⟩
        have hI3 : rI (mg_sF G 148 10 (.int 0)) A := hI
        refine mg_go [37] 80 37 ms_273 ?_
        repeat (first | refine ⟨_, mg_Fs rfl rfl, ?_⟩ | refine ⟨_, mg_Fd rfl rfl, ?_⟩ | refine ⟨Or.inl rfl, ?_⟩ | refine ⟨Or.inr ⟨_, rfl⟩, ?_⟩ | refine ⟨fun _ => ?_, fun h => absurd h (by decide)⟩ | refine ⟨fun h => absurd h (by decide), fun _ => ?_⟩)
        refine mg_cv (r183n (d + 1) hI3.v h8) (by omega) ?_
        exact ⟨fun _ => ⟨Or.inl rfl, rfl, rfl, rfl⟩, fun h => absurd h (Int32.not_lt.mpr (Int32.le_refl _))⟩
end RM
