/-- the cofactor by levels 0 .. k - 1, the values being the bits of c -/
def a_C (ord : Nat → Nat) (T : a_T) : Nat → Nat → a_T
  | 0, _ => T
  | k + 1, c => a_cf (a_C ord T k (c / 2)) (ord k) (decide (c % 2 = 1))
def aIn (ord : Nat → Nat) (nv nf : Nat) (tb : Nat → a_T) (U : a_T) : Prop := a_per nv U ∧ a_lev ord U 0 nv < nv ∧ ∃ f c, f < nf ∧ c < 2 ^ a_lev ord U 0 nv ∧ U = a_C ord (tb f) (a_lev ord U 0 nv) c
theorem a_C_up {ord : Nat → Nat} {nv : Nat} {F T : a_T} (ho : ∀ j, j < nv → ord j < 8) {k0 c : Nat} (hc : c < 2 ^ k0) (e : T = a_C ord F k0 c) : ∀ m, k0 + m ≤ nv → (∀ j, k0 ≤ j → j < k0 + m → a_dp T (ord j) = false) → ∃ c2, c2 < 2 ^ (k0 + m) ∧ T = a_C ord F (k0 + m) c2
  | 0, _, _ => ⟨c, hc, e⟩
  | m + 1, h1, h2 => by
    obtain ⟨c2, h3, h4⟩ := a_C_up ho hc e m (by omega) (fun j h5 h6 => h2 j h5 (by omega))
    refine ⟨2 * c2, ?_, ?_⟩
    · show 2 * c2 < 2 ^ (k0 + m + 1)
      rw [Nat.pow_succ]
      omega
    · show T = a_cf (a_C ord F (k0 + m) (2 * c2 / 2)) (ord (k0 + m)) (decide (2 * c2 % 2 = 1))
      rw [show 2 * c2 / 2 = c2 by omega, ← h4, a_dp_no (ho _ (by omega)) (h2 (k0 + m) (by omega) (by omega))]
theorem a_lev_ge {ord : Nat → Nat} {nv : Nat} {T : a_T} {k : Nat} (hk : k ≤ nv) (h : ∀ j, j < k → a_dp T (ord j) = false) : k ≤ a_lev ord T 0 nv := by
  refine Nat.le_of_not_lt fun hl => ?_
  have := a_lev_yes ord T nv 0 (by omega)
  rw [h _ hl] at this
  cases this
theorem a_vis_in (ord : Nat → Nat) (nv nf : Nat) (tb : Nat → a_T) (ho : ∀ j, j < nv → ord j < 8) (hs : ∀ v, v < nv → ∃ j, j < nv ∧ ord j = v) : ∀ n T ts, a_per nv T → (∃ k0 f c, k0 ≤ a_lev ord T 0 nv ∧ f < nf ∧ c < 2 ^ k0 ∧ T = a_C ord (tb f) k0 c) → (∀ U, U ∈ ts → aIn ord nv nf tb U) → ∀ U, U ∈ a_vis ord nv n T ts → aIn ord nv nf tb U
  | 0, T, ts, hT, hP, h => h
  | n + 1, T, ts, hT, hP, h => by
    unfold a_vis
    split
    · exact h
    · rename_i h3
      have hlevno := a_lev_no ord T nv 0
      have hle := a_lev_le ord T nv 0
      have hlev : a_lev ord T 0 nv < nv := by
        refine Decidable.byContradiction fun hge => ?_
        refine (a_const (T := T) fun v hv => ?_).elim (fun q => h3 (Or.inl q)) (fun q => h3 (Or.inr (Or.inl q)))
        by_cases hvn : nv ≤ v
        · exact hT v hv hvn
        · obtain ⟨j, hj, rfl⟩ := hs v (by omega)
          exact hlevno j (Nat.zero_le _) (by omega)
      obtain ⟨k0, f, c, p1, p2, p3, p4⟩ := hP
      obtain ⟨c2, p5, p6⟩ := a_C_up ho p3 p4 (a_lev ord T 0 nv - k0) (by omega) (fun j h5 h6 => hlevno j (Nat.zero_le _) (by omega))
      rw [show k0 + (a_lev ord T 0 nv - k0) = a_lev ord T 0 nv by omega] at p5 p6
      have hv8 := ho _ hlev
      have hch : ∀ x : Bool, ∃ k0 f c, k0 ≤ a_lev ord (a_cf T (ord (a_lev ord T 0 nv)) x) 0 nv ∧ f < nf ∧ c < 2 ^ k0 ∧ a_cf T (ord (a_lev ord T 0 nv)) x = a_C ord (tb f) k0 c := fun x => by
        refine ⟨a_lev ord T 0 nv + 1, f, 2 * c2 + (if x then 1 else 0), a_lev_ge (by omega) (fun j hj => ?_), p2, ?_, ?_⟩
        · rcases Nat.lt_or_eq_of_le (Nat.le_of_lt_succ hj) with h9 | rfl
          · exact a_cf_dp hv8 (ho j (by omega)) x (hlevno j (Nat.zero_le _) h9)
          · exact a_cf_self _ hv8 x
        · rw [Nat.pow_succ]
          split <;> omega
        · show _ = a_cf (a_C ord (tb f) (a_lev ord T 0 nv) ((2 * c2 + (if x then 1 else 0)) / 2)) (ord (a_lev ord T 0 nv)) (decide ((2 * c2 + (if x then 1 else 0)) % 2 = 1))
          rw [show (2 * c2 + (if x then 1 else 0)) / 2 = c2 by split <;> omega, ← p6]
          congr 1
          cases x
          · exact (decide_eq_false (by rw [if_neg (by decide)]; omega)).symm
          · exact (decide_eq_true (by rw [if_pos rfl]; omega)).symm
      have h9 : ∀ U, U ∈ ts ++ [T] → aIn ord nv nf tb U := fun U hU => by
        rcases List.mem_append.mp hU with q | q
        · exact h U q
        · rw [List.mem_singleton.mp q]
          exact ⟨hT, hlev, f, c2, p2, p5, p6⟩
      exact a_vis_in ord nv nf tb ho hs n _ _ (a_pw_per hT hv8 true) (hch true) (a_vis_in ord nv nf tb ho hs n _ _ (a_pw_per hT hv8 false) (hch false) h9)
theorem a_all_in (ord : Nat → Nat) (nv nf : Nat) (tb : Nat → a_T) (ho : ∀ j, j < nv → ord j < 8) (hs : ∀ v, v < nv → ∃ j, j < nv ∧ ord j = v) (hp : ∀ f, f < nf → a_per nv (tb f)) : ∀ f, f ≤ nf → ∀ U, U ∈ a_all ord nv tb f → aIn ord nv nf tb U
  | 0, _ => fun U h => absurd h (List.not_mem_nil)
  | f + 1, hf => a_vis_in ord nv nf tb ho hs (nv + 1) (tb f) _ (hp f (by omega)) ⟨0, f, 0, Nat.zero_le _, by omega, by decide, rfl⟩ (a_all_in ord nv nf tb ho hs hp f (by omega))
/-- a number for a table that depends on vs alone -/
def a_vc : List Nat → a_T → Nat
  | [], T => if a_at T 0 then 1 else 0
  | v :: vs, T => a_vc vs (a_cf T v true) * 2 ^ (2 ^ vs.length) + a_vc vs (a_cf T v false)
theorem a_vc_lt : ∀ vs T, a_vc vs T < 2 ^ (2 ^ vs.length)
  | [], T => by
    unfold a_vc
    split <;> decide
  | v :: vs, T => by
    have h1 := a_vc_lt vs (a_cf T v true)
    have h2 := a_vc_lt vs (a_cf T v false)
    show a_vc vs (a_cf T v true) * 2 ^ (2 ^ vs.length) + a_vc vs (a_cf T v false) < 2 ^ (2 ^ (vs.length + 1))
    rw [Nat.pow_succ 2 vs.length, Nat.mul_two, Nat.pow_add, Nat.mul_comm (a_vc vs (a_cf T v true))]
    generalize 2 ^ (2 ^ vs.length) = M at h1 h2 ⊢
    calc M * a_vc vs (a_cf T v true) + a_vc vs (a_cf T v false) < M * a_vc vs (a_cf T v true) + M := by omega
      _ = M * (a_vc vs (a_cf T v true) + 1) := by rw [Nat.mul_succ]
      _ ≤ M * M := Nat.mul_le_mul_left _ h1
def aOn (vs : List Nat) (T : a_T) : Prop := ∀ v, v < 8 → v ∉ vs → a_dp T v = false
theorem aOn_cf {v : Nat} {vs : List Nat} {T : a_T} (hv : v < 8) (h : aOn (v :: vs) T) (x : Bool) : aOn vs (a_cf T v x) := fun u hu hn => by
  by_cases e : u = v
  · subst e
    exact a_cf_self T hv x
  · exact a_cf_dp hv hu x (h u hu (fun q => (List.mem_cons.mp q).elim e hn))
theorem a_cf_ext {T U : a_T} {v : Nat} (hv : v < 8) (h0 : a_cf T v false = a_cf U v false) (h1 : a_cf T v true = a_cf U v true) : T = U := by
  refine a_at_ext fun k hk => ?_
  have e : ∀ V, a_at V k = a_at (a_cf V v (k.testBit v)) k := fun V => by rw [a_cf_at V v hv _ k hk, (a_sb_lt v hv k hk).2.2]
  rw [e T, e U]
  cases k.testBit v
  · rw [h0]
  · rw [h1]
theorem a_vc_inj : ∀ vs T U, (∀ v, v ∈ vs → v < 8) → aOn vs T → aOn vs U → a_vc vs T = a_vc vs U → T = U
  | [], T, U, _, hT, hU, h => by
    have h0 : a_at a_zero 0 = false := a_zero_at 0 (by decide)
    have h1 : a_at a_one 0 = true := a_one_at 0 (by decide)
    rcases a_const (T := T) (fun v hv => hT v hv List.not_mem_nil) with rfl | rfl <;> rcases a_const (T := U) (fun v hv => hU v hv List.not_mem_nil) with rfl | rfl
    · rfl
    · unfold a_vc at h
      rw [h0, h1] at h
      exact absurd h (by decide)
    · unfold a_vc at h
      rw [h0, h1] at h
      exact absurd h (by decide)
    · rfl
  | v :: vs, T, U, hv, hT, hU, h => by
    have hv8 := hv v List.mem_cons_self
    have h1 := a_vc_lt vs (a_cf T v false)
    have h2 := a_vc_lt vs (a_cf U v false)
    have h : a_vc vs (a_cf T v true) * 2 ^ (2 ^ vs.length) + a_vc vs (a_cf T v false) = a_vc vs (a_cf U v true) * 2 ^ (2 ^ vs.length) + a_vc vs (a_cf U v false) := h
    have e1 : a_vc vs (a_cf T v false) = a_vc vs (a_cf U v false) := by
      have := congrArg (· % 2 ^ (2 ^ vs.length)) h
      simp only [Nat.mul_add_mod_self_right, Nat.mod_eq_of_lt h1, Nat.mod_eq_of_lt h2] at this
      exact this
    have e2 : a_vc vs (a_cf T v true) = a_vc vs (a_cf U v true) := by
      rw [e1] at h
      exact Nat.eq_of_mul_eq_mul_right (Nat.two_pow_pos _) (Nat.add_right_cancel h)
    exact a_cf_ext hv8 (a_vc_inj vs _ _ (fun u hu => hv u (List.mem_cons_of_mem _ hu)) (aOn_cf hv8 hT false) (aOn_cf hv8 hU false) e1) (a_vc_inj vs _ _ (fun u hu => hv u (List.mem_cons_of_mem _ hu)) (aOn_cf hv8 hT true) (aOn_cf hv8 hU true) e2)
/-- tables that depend on v, and on vs beside it: M (M - 1) of them -/
def a_vd (v : Nat) (vs : List Nat) (T : a_T) : Nat := a_vc vs (a_cf T v true) * (2 ^ (2 ^ vs.length) - 1) + (if a_vc vs (a_cf T v false) < a_vc vs (a_cf T v true) then a_vc vs (a_cf T v false) else a_vc vs (a_cf T v false) - 1)
theorem a_vd_ar {M a b c d : Nat} (ha : a < M) (hb : b < M) (hc : c < M) (hd : d < M) (h1 : b ≠ a) (h2 : d ≠ c) (h : a * (M - 1) + (if b < a then b else b - 1) = c * (M - 1) + (if d < c then d else d - 1)) : a = c ∧ b = d := by
  have l1 : (if b < a then b else b - 1) < M - 1 := by split <;> omega
  have l2 : (if d < c then d else d - 1) < M - 1 := by split <;> omega
  have hM : 0 < M - 1 := by omega
  have e1 : (if b < a then b else b - 1) = (if d < c then d else d - 1) := by
    have := congrArg (· % (M - 1)) h
    simp only [Nat.mul_add_mod_self_right, Nat.mod_eq_of_lt l1, Nat.mod_eq_of_lt l2] at this
    exact this
  have e2 : a = c := by
    rw [e1] at h
    exact Nat.eq_of_mul_eq_mul_right hM (Nat.add_right_cancel h)
  subst e2
  refine ⟨rfl, ?_⟩
  split at e1 <;> split at e1 <;> omega
theorem a_vd_lt (v : Nat) (vs : List Nat) (T : a_T) (h1 : a_vc vs (a_cf T v false) ≠ a_vc vs (a_cf T v true)) : a_vd v vs T < 2 ^ (2 ^ vs.length) * (2 ^ (2 ^ vs.length) - 1) := by
  have ha := a_vc_lt vs (a_cf T v true)
  have hb := a_vc_lt vs (a_cf T v false)
  unfold a_vd
  generalize a_vc vs (a_cf T v true) = a at *
  generalize a_vc vs (a_cf T v false) = b at *
  generalize 2 ^ (2 ^ vs.length) = M at *
  have l1 : (if b < a then b else b - 1) < M - 1 := by split <;> omega
  calc a * (M - 1) + (if b < a then b else b - 1) < a * (M - 1) + (M - 1) := by omega
    _ = (a + 1) * (M - 1) := by rw [Nat.succ_mul]
    _ ≤ M * (M - 1) := Nat.mul_le_mul_right _ ha
theorem a_vd_L {v : Nat} {vs : List Nat} {l : List a_T} (hv : v < 8) (hvs : ∀ u, u ∈ vs → u < 8) (hnd : l.Nodup) (h : ∀ T, T ∈ l → aOn (v :: vs) T ∧ a_dp T v = true) : l.length ≤ 2 ^ (2 ^ vs.length) * (2 ^ (2 ^ vs.length) - 1) := by
  have hne : ∀ T, T ∈ l → a_vc vs (a_cf T v false) ≠ a_vc vs (a_cf T v true) := fun T hT q => by
    obtain ⟨h1, h2⟩ := h T hT
    exact (a_dp_iff T v).mp h2 (a_vc_inj vs _ _ hvs (aOn_cf hv h1 false) (aOn_cf hv h1 true) q)
  refine a_pigL (a_vd v vs) hnd (fun T hT => a_vd_lt v vs T (hne T hT)) (fun T hT U hU he => ?_)
  obtain ⟨e1, e2⟩ := a_vd_ar (a_vc_lt vs _) (a_vc_lt vs _) (a_vc_lt vs _) (a_vc_lt vs _) (hne T hT) (hne U hU) he
  exact a_cf_ext hv (a_vc_inj vs _ _ hvs (aOn_cf hv (h T hT).1 false) (aOn_cf hv (h U hU).1 false) e2) (a_vc_inj vs _ _ hvs (aOn_cf hv (h T hT).1 true) (aOn_cf hv (h U hU).1 true) e1)
def a_bd (nv k : Nat) : Nat := if k + 1 = nv then 2 else if k + 2 = nv then 12 else if k + 3 = nv then 240 else 12 * 2 ^ k
def a_sN (f : Nat → Nat) : Nat → Nat
  | 0 => 0
  | n + 1 => a_sN f n + f n
theorem a_bd_s : ∀ nv, nv < 9 → a_sN (a_bd nv) nv ≤ 626 := by decide
theorem a_flt (f : a_T → Nat) (n : Nat) : ∀ l : List a_T, (l.filter (fun x => decide (f x < n + 1))).length = (l.filter (fun x => decide (f x < n))).length + (l.filter (fun x => decide (f x = n))).length
  | [] => rfl
  | x :: l => by
    have ih := a_flt f n l
    rw [List.filter_cons, List.filter_cons, List.filter_cons]
    by_cases h1 : f x < n
    · rw [if_pos (decide_eq_true (by omega)), if_pos (decide_eq_true h1), if_neg (by rw [decide_eq_true_iff]; omega), List.length_cons, List.length_cons]
      omega
    · by_cases h2 : f x = n
      · rw [if_pos (decide_eq_true (by omega)), if_neg (by rw [decide_eq_true_iff]; exact h1), if_pos (decide_eq_true h2), List.length_cons, List.length_cons]
        omega
      · rw [if_neg (by rw [decide_eq_true_iff]; omega), if_neg (by rw [decide_eq_true_iff]; exact h1), if_neg (by rw [decide_eq_true_iff]; exact h2)]
        exact ih
theorem a_flt_le (f : a_T → Nat) (b : Nat → Nat) (l : List a_T) : ∀ n, (∀ k, k < n → (l.filter (fun x => decide (f x = k))).length ≤ b k) → (l.filter (fun x => decide (f x < n))).length ≤ a_sN b n
  | 0, _ => by
    have : l.filter (fun x => decide (f x < 0)) = [] := List.filter_eq_nil_iff.mpr (fun x _ => by rw [decide_eq_true_iff]; omega)
    rw [this]
    exact Nat.le_refl 0
  | n + 1, h => by
    rw [a_flt]
    exact Nat.add_le_add (a_flt_le f b l n (fun k hk => h k (by omega))) (h n (by omega))
theorem a_all_626 {ord : Nat → Nat} {nv nf : Nat} {tb : Nat → a_T} (hO : aO ord nv) (h12 : nf ≤ 12) (hp : ∀ f, f < nf → a_per nv (tb f)) : (a_all ord nv tb nf).length ≤ 626 := by
  obtain ⟨o1, o2, o3, h8⟩ := hO
  have ho : ∀ j, j < nv → ord j < 8 := fun j hj => by have := o1 j hj; omega
  have hin := a_all_in ord nv nf tb ho o2 hp nf (Nat.le_refl _)
  have hnd := a_all_nd ord nv tb nf
  generalize a_all ord nv tb nf = l at hin hnd ⊢
  have e : l.filter (fun x => decide (a_lev ord x 0 nv < nv)) = l := List.filter_eq_self.mpr (fun x hx => decide_eq_true (hin x hx).2.1)
  rw [← e]
  refine Nat.le_trans (a_flt_le (fun x => a_lev ord x 0 nv) (a_bd nv) l nv (fun k hk => ?_)) (a_bd_s nv (by omega))
  have hl : ∀ T, T ∈ l.filter (fun x => decide (a_lev ord x 0 nv = k)) → aIn ord nv nf tb T ∧ a_lev ord T 0 nv = k := fun T hT => by
    obtain ⟨h1, h2⟩ := List.mem_filter.mp hT
    exact ⟨hin T h1, of_decide_eq_true h2⟩
  have hnd2 : (l.filter (fun x => decide (a_lev ord x 0 nv = k))).Nodup := hnd.filter _
  generalize l.filter (fun x => decide (a_lev ord x 0 nv = k)) = l2 at hl hnd2 ⊢
  have hon : ∀ vs : List Nat, (∀ j, k ≤ j → j < nv → ord j ∈ vs) → ∀ T, T ∈ l2 → aOn vs T := fun vs hvs T hT v hv hn => by
    obtain ⟨⟨h1, h2, -⟩, h3⟩ := hl T hT
    by_cases hvn : nv ≤ v
    · exact h1 v hv hvn
    · obtain ⟨j, hj, rfl⟩ := o2 v (by omega)
      by_cases hjk : j < k
      · exact a_lev_no ord T nv 0 j (Nat.zero_le _) (by omega)
      · exact absurd (hvs j (by omega) hj) hn
  have hdp : ∀ T, T ∈ l2 → a_dp T (ord k) = true := fun T hT => by
    obtain ⟨⟨h1, h2, -⟩, h3⟩ := hl T hT
    have := a_lev_yes ord T nv 0 (by omega)
    rw [h3] at this
    exact this
  unfold a_bd
  by_cases c1 : k + 1 = nv
  · rw [if_pos c1]
    exact a_vd_L (vs := []) (ho k hk) (fun u hu => absurd hu List.not_mem_nil) hnd2 (fun T hT => ⟨hon [ord k] (fun j h1 h2 => by rw [show j = k by omega]; exact List.mem_cons_self) T hT, hdp T hT⟩)
  rw [if_neg c1]
  by_cases c2 : k + 2 = nv
  · rw [if_pos c2]
    exact a_vd_L (vs := [ord (k + 1)]) (ho k hk) (fun u hu => by rw [List.mem_singleton.mp hu]; exact ho _ (by omega)) hnd2 (fun T hT => ⟨hon [ord k, ord (k + 1)] (fun j h1 h2 => by rcases (show j = k ∨ j = k + 1 by omega) with rfl | rfl <;> simp) T hT, hdp T hT⟩)
  rw [if_neg c2]
  by_cases c3 : k + 3 = nv
  · rw [if_pos c3]
    refine Nat.le_trans (a_vd_L (vs := [ord (k + 1), ord (k + 2)]) (ho k hk) (fun u hu => ?_) hnd2 (fun T hT => ⟨hon [ord k, ord (k + 1), ord (k + 2)] (fun j h1 h2 => by rcases (show j = k ∨ j = k + 1 ∨ j = k + 2 by omega) with rfl | rfl | rfl <;> simp) T hT, hdp T hT⟩)) (show 2 ^ (2 ^ 2) * (2 ^ (2 ^ 2) - 1) ≤ 240 by decide)
    rcases List.mem_cons.mp hu with rfl | hu
    · exact ho _ (by omega)
    · rw [List.mem_singleton.mp hu]
      exact ho _ (by omega)
  rw [if_neg c3]
  have hx : ∀ T : a_T, ∃ q : Nat, T ∈ l2 → q < 12 * 2 ^ k ∧ T = a_C ord (tb (q / 2 ^ k)) k (q % 2 ^ k) := fun T => by
    by_cases hT : T ∈ l2
    · obtain ⟨⟨-, -, f, c, h1, h2, h3⟩, h4⟩ := hl T hT
      rw [h4] at h2 h3
      have hp2 := Nat.two_pow_pos k
      refine ⟨f * 2 ^ k + c, fun _ => ⟨?_, ?_⟩⟩
      · calc f * 2 ^ k + c < f * 2 ^ k + 2 ^ k := by omega
          _ = (f + 1) * 2 ^ k := by rw [Nat.succ_mul]
          _ ≤ 12 * 2 ^ k := Nat.mul_le_mul_right _ (by omega)
      · rw [Nat.mul_comm f, Nat.mul_add_div hp2, Nat.div_eq_of_lt h2, Nat.add_zero, Nat.mul_add_mod, Nat.mod_eq_of_lt h2]
        exact h3
    · exact ⟨0, fun h => absurd h hT⟩
  obtain ⟨q, hq⟩ := Classical.axiomOfChoice hx
  exact a_pigL q hnd2 (fun T hT => (hq T hT).1) (fun T hT U hU he => by rw [(hq T hT).2, (hq U hU).2, he])
