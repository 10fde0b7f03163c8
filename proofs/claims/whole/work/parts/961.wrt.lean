/-! TEXTS THAT ARE WRITTEN (pure), and how long they are -/
def w_num (n : Nat) : List Nat := (if 100 ≤ n then [48 + n / 100] else []) ++ (if 10 ≤ n then [48 + n / 10 % 10] else []) ++ [48 + n % 10]
theorem w_num_le (n : Nat) : (w_num n).length ≤ 3 := by
  unfold w_num
  rw [List.length_append, List.length_append]
  split <;> split <;> simp
def w_nd (A : a_A) (k : Nat) : List Nat := [59] ++ w_num k ++ [58] ++ aVN A (aD A (gL (aG A) k)) ++ [32] ++ w_num (gO (aG A) k) ++ [44] ++ w_num (gH (aG A) k)
def w_fs (A : a_A) (f : Nat) : Nat → List Nat
  | 0 => w_num (aR A f)
  | k + 1 => w_fs A f k ++ (if g_rc (aG A) (aV A) (aR A f) (k + 2) then w_nd A (k + 2) else [])
def w_or (A : a_A) : Nat → List Nat
  | 0 => []
  | k + 1 => w_or A k ++ (if 0 < k then [44] else []) ++ aVN A (aD A k)
theorem w_or_le {A : a_A} (hW : aW A) : ∀ k, k ≤ aV A → (w_or A k).length ≤ 8 * k
  | 0, _ => Nat.le_refl _
  | k + 1, hk => by
    have ih := w_or_le hW k (by omega)
    have h7 := (hW.2.2.2.2.1 _ (hW.2.1.1 k hk)).1.2
    unfold w_or
    rw [List.length_append, List.length_append]
    split
    · rw [show [44].length = 1 from rfl]; omega
    · rw [show ([] : List Nat).length = 0 from rfl]; omega
theorem w_nd_le {A : a_A} (hW : aW A) {k : Nat} (hl : gL (aG A) k < aV A) : (w_nd A k).length ≤ 20 := by
  have h7 := (hW.2.2.2.2.1 _ (hW.2.1.1 _ hl)).1.2
  have h1 := w_num_le k
  have h2 := w_num_le (gO (aG A) k)
  have h3 := w_num_le (gH (aG A) k)
  unfold w_nd
  simp only [List.length_append, List.length_cons, List.length_nil]
  omega
/-- how many of the first n inner nodes are reached -/
def w_ct (A : a_A) (f : Nat) : Nat → Nat
  | 0 => 0
  | k + 1 => w_ct A f k + (if g_rc (aG A) (aV A) (aR A f) (k + 2) then 1 else 0)
theorem w_fs_le {A : a_A} (hW : aW A) (hg : gW (aV A) (aG A)) (f : Nat) : ∀ k, k + 2 ≤ gN (aG A) → (w_fs A f k).length ≤ 3 + 20 * w_ct A f k
  | 0, _ => w_num_le _
  | k + 1, hk => by
    have ih := w_fs_le hW hg f k (by omega)
    have hn := w_nd_le hW (hg.2.2.2.2 (k + 2) (by omega) (by omega)).1
    unfold w_fs w_ct
    rw [List.length_append]
    split
    · omega
    · rw [show ([] : List Nat).length = 0 from rfl]; omega
theorem w_fs_mono (A : a_A) (f : Nat) : ∀ k m, (w_fs A f k).length ≤ (w_fs A f (k + m)).length
  | k, 0 => Nat.le_refl _
  | k, m + 1 => by
    have ih := w_fs_mono A f k m
    show _ ≤ (w_fs A f (k + m) ++ _).length
    rw [List.length_append]
    omega
/-! one function of 8 variables has at most 77 inner nodes -/
def a_bd1 (nv k : Nat) : Nat := if k + 1 = nv then 2 else if k + 2 = nv then 12 else 2 ^ k
theorem a_bd1_s : ∀ nv, nv < 9 → a_sN (a_bd1 nv) nv ≤ 77 := by decide
theorem a_one_77 {ord : Nat → Nat} {nv : Nat} {F : a_T} {l : List a_T} (hO : aO ord nv) (hnd : l.Nodup) (hin : ∀ U, U ∈ l → aIn ord nv 1 (fun _ => F) U) : l.length ≤ 77 := by
  obtain ⟨o1, o2, o3, h8⟩ := hO
  have ho : ∀ j, j < nv → ord j < 8 := fun j hj => by have := o1 j hj; omega
  have e : l.filter (fun x => decide (a_lev ord x 0 nv < nv)) = l := List.filter_eq_self.mpr (fun x hx => decide_eq_true (hin x hx).2.1)
  rw [← e]
  refine Nat.le_trans (a_flt_le (fun x => a_lev ord x 0 nv) (a_bd1 nv) l nv (fun k hk => ?_)) (a_bd1_s nv (by omega))
  have hl : ∀ T, T ∈ l.filter (fun x => decide (a_lev ord x 0 nv = k)) → aIn ord nv 1 (fun _ => F) T ∧ a_lev ord T 0 nv = k := fun T hT => by
    obtain ⟨h1, h2⟩ := List.mem_filter.mp hT
    exact ⟨hin T h1, of_decide_eq_true h2⟩
  have hnd2 : (l.filter (fun x => decide (a_lev ord x 0 nv = k))).Nodup := hnd.filter _
  generalize l.filter (fun x => decide (a_lev ord x 0 nv = k)) = l2 at hl hnd2 ⊢
  have hon : ∀ vs : List Nat, (∀ j, k ≤ j → j < nv → ord j ∈ vs) → ∀ T, T ∈ l2 → aOn vs T := fun vs hvs T hT v hv hn => by
    obtain ⟨⟨h1, h2, -⟩, h3⟩ := hl T hT
    by_cases hvn : nv ≤ v
    · exact h1 v hv hvn
    · obtain ⟨j, hj, rfl⟩ := o2 v (by omega)
      by_cases hjk : j < k
      · exact a_lev_no ord T nv 0 j (Nat.zero_le _) (by omega)
      · exact absurd (hvs j (by omega) hj) hn
  have hdp : ∀ T, T ∈ l2 → a_dp T (ord k) = true := fun T hT => by
    obtain ⟨⟨h1, h2, -⟩, h3⟩ := hl T hT
    have := a_lev_yes ord T nv 0 (by omega)
    rw [h3] at this
    exact this
  unfold a_bd1
  by_cases c1 : k + 1 = nv
  · rw [if_pos c1]
    exact a_vd_L (vs := []) (ho k hk) (fun u hu => absurd hu List.not_mem_nil) hnd2 (fun T hT => ⟨hon [ord k] (fun j h1 h2 => by rw [show j = k by omega]; exact List.mem_cons_self) T hT, hdp T hT⟩)
  rw [if_neg c1]
  by_cases c2 : k + 2 = nv
  · rw [if_pos c2]
    exact a_vd_L (vs := [ord (k + 1)]) (ho k hk) (fun u hu => by rw [List.mem_singleton.mp hu]; exact ho _ (by omega)) hnd2 (fun T hT => ⟨hon [ord k, ord (k + 1)] (fun j h1 h2 => by rcases (show j = k ∨ j = k + 1 by omega) with rfl | rfl <;> simp) T hT, hdp T hT⟩)
  rw [if_neg c2]
  have hx : ∀ T : a_T, ∃ q : Nat, T ∈ l2 → q < 2 ^ k ∧ T = a_C ord F k q := fun T => by
    by_cases hT : T ∈ l2
    · obtain ⟨⟨-, -, f, c, h1, h2, h3⟩, h4⟩ := hl T hT
      rw [h4] at h2 h3
      exact ⟨c, fun _ => ⟨h2, h3⟩⟩
    · exact ⟨0, fun h => absurd h hT⟩
  obtain ⟨q, hq⟩ := Classical.axiomOfChoice hx
  exact a_pigL q hnd2 (fun T hT => (hq T hT).1) (fun T hT U hU he => by rw [(hq T hT).2, (hq U hU).2, he])
/-- a node that is reached from F's holds a cofactor of F -/
theorem a_rc_in {A : a_A} (hW : aW A) (hcl : aCl (aD A) (aV A) (aN A)) (hg : gW (aV A) (aG A)) {F : a_T} : ∀ m k y, k < gN (aG A) → (∀ T, a_nd (aN A) k T → a_per (aV A) T ∧ ∃ k0 c, k0 ≤ a_lev (aD A) T 0 (aV A) ∧ c < 2 ^ k0 ∧ T = a_C (aD A) F k0 c) → g_rc (aG A) m k y = true → 2 ≤ y → y < gN (aG A) → aIn (aD A) (aV A) 1 (fun _ => F) (a_Tk (aN A) y) := by
  have ho := hW.o8
  have hnd : (aN A).Nodup := a_all_nd _ _ _ _
  have hnl : a_zero ∉ aN A ∧ a_one ∉ aN A := a_all_nl _ _ _ _
  have self : ∀ k, 2 ≤ k → k < gN (aG A) → (∀ T, a_nd (aN A) k T → a_per (aV A) T ∧ ∃ k0 c, k0 ≤ a_lev (aD A) T 0 (aV A) ∧ c < 2 ^ k0 ∧ T = a_C (aD A) F k0 c) → ∃ T c2, (aN A)[k - 2]? = some T ∧ a_Tk (aN A) k = T ∧ a_per (aV A) T ∧ a_lev (aD A) T 0 (aV A) < aV A ∧ c2 < 2 ^ a_lev (aD A) T 0 (aV A) ∧ T = a_C (aD A) F (a_lev (aD A) T 0 (aV A)) c2 ∧ (∃ kl kh, gO (aG A) k = kl ∧ gH (aG A) k = kh ∧ a_nd (aN A) kl (a_cf T (aD A (a_lev (aD A) T 0 (aV A))) false) ∧ a_nd (aN A) kh (a_cf T (aD A (a_lev (aD A) T 0 (aV A))) true)) := fun k h2 hk hP => by
    have hk' : k - 2 < (aN A).length := by have : k < (aN A).length + 2 := hk; omega
    obtain ⟨T, kl, kh, e, hlev, n1, n2⟩ := hcl (k - 2) hk'
    obtain ⟨p1, k0, c, p2, p3, p4⟩ := hP T (Or.inr (Or.inr ⟨h2, e⟩))
    have hlevno := a_lev_no (aD A) T (aV A) 0
    obtain ⟨c2, p5, p6⟩ := a_C_up ho p3 p4 (a_lev (aD A) T 0 (aV A) - k0) (by omega) (fun j h5 h6 => hlevno j (Nat.zero_le _) (by omega))
    rw [show k0 + (a_lev (aD A) T 0 (aV A) - k0) = a_lev (aD A) T 0 (aV A) by omega] at p5 p6
    obtain ⟨-, g2, g3⟩ := a_gr_at (ord := aD A) (nv := aV A) hnd hnl h2 e
    exact ⟨T, c2, e, by unfold a_Tk; rw [e]; rfl, p1, hlev, p5, p6, kl, kh, g2 kl n1, g3 kh n2, n1, n2⟩
  have child : ∀ (T : a_T) (c2 : Nat) (x : Bool), a_per (aV A) T → a_lev (aD A) T 0 (aV A) < aV A → c2 < 2 ^ a_lev (aD A) T 0 (aV A) → T = a_C (aD A) F (a_lev (aD A) T 0 (aV A)) c2 → a_per (aV A) (a_cf T (aD A (a_lev (aD A) T 0 (aV A))) x) ∧ ∃ k0 c, k0 ≤ a_lev (aD A) (a_cf T (aD A (a_lev (aD A) T 0 (aV A))) x) 0 (aV A) ∧ c < 2 ^ k0 ∧ a_cf T (aD A (a_lev (aD A) T 0 (aV A))) x = a_C (aD A) F k0 c := fun T c2 x p1 hlev p5 p6 => by
    have hv8 := ho _ hlev
    have hlevno := a_lev_no (aD A) T (aV A) 0
    refine ⟨a_pw_per p1 hv8 x, a_lev (aD A) T 0 (aV A) + 1, 2 * c2 + (if x then 1 else 0), a_lev_ge (by omega) (fun j hj => ?_), ?_, ?_⟩
    · rcases Nat.lt_or_eq_of_le (Nat.le_of_lt_succ hj) with h9 | rfl
      · exact a_cf_dp hv8 (ho j (by omega)) x (hlevno j (Nat.zero_le _) h9)
      · exact a_cf_self _ hv8 x
    · rw [Nat.pow_succ]
      split <;> omega
    · show _ = a_cf (a_C (aD A) F (a_lev (aD A) T 0 (aV A)) ((2 * c2 + (if x then 1 else 0)) / 2)) (aD A (a_lev (aD A) T 0 (aV A))) (decide ((2 * c2 + (if x then 1 else 0)) % 2 = 1))
      rw [show (2 * c2 + (if x then 1 else 0)) / 2 = c2 by split <;> omega, ← p6]
      congr 1
      cases x
      · exact (decide_eq_false (by rw [if_neg (by decide)]; omega)).symm
      · exact (decide_eq_true (by rw [if_pos rfl]; omega)).symm
  have uniq : ∀ {k : Nat} {T U : a_T}, a_nd (aN A) k T → a_nd (aN A) k U → T = U := fun {k T U} h1 h2 => by
    rcases h1 with ⟨a1, a2⟩ | ⟨a1, a2⟩ | ⟨a1, a2⟩ <;> rcases h2 with ⟨b1, b2⟩ | ⟨b1, b2⟩ | ⟨b1, b2⟩ <;> first | omega | (rw [a2, b2]) | (exact Option.some.inj (a2.symm.trans b2))
  intro m
  induction m with
  | zero =>
    intro k y hk hP h hy hyN
    have e : y = k := by simpa [g_rc] using h
    subst e
    obtain ⟨T, c2, e, e2, p1, p2, p3, p4, -⟩ := self y hy hk hP
    rw [e2]
    exact ⟨p1, p2, 0, c2, by decide, p3, p4⟩
  | succ m ih =>
    intro k y hk hP h hy hyN
    by_cases h2 : k < 2
    · rw [g_rc_lf _ _ _ _ h2] at h
      have e : y = k := by simpa using h
      omega
    · have h2 : 2 ≤ k := by omega
      obtain ⟨T, c2, e, e2, p1, p2, p3, p4, kl, kh, g1, g2, n1, n2⟩ := self k h2 hk hP
      obtain ⟨-, q2, q3, -, -⟩ := hg.2.2.2.2 k h2 hk
      rw [g_rc_in _ _ _ _ h2, Bool.or_eq_true, Bool.or_eq_true] at h
      rcases h with (h | h) | h
      · have e9 : y = k := by simpa using h
        subst e9
        rw [e2]
        exact ⟨p1, p2, 0, c2, by decide, p3, p4⟩
      · refine ih _ y q2 (fun U hU => ?_) h hy hyN
        rw [g1] at hU
        rw [uniq hU n1]
        exact child T c2 false p1 p2 p3 p4
      · refine ih _ y q3 (fun U hU => ?_) h hy hyN
        rw [g2] at hU
        rw [uniq hU n2]
        exact child T c2 true p1 p2 p3 p4
theorem a_ndmap {α β : Type} (f : α → β) : ∀ l : List α, l.Nodup → (∀ x, x ∈ l → ∀ y, y ∈ l → f x = f y → x = y) → (l.map f).Nodup
  | [], _, _ => List.nodup_nil
  | x :: l, h, hi => by
    obtain ⟨h1, h2⟩ := List.nodup_cons.mp h
    rw [List.map_cons]
    refine List.nodup_cons.mpr ⟨fun q => ?_, a_ndmap f l h2 (fun a ha b hb => hi a (List.mem_cons_of_mem _ ha) b (List.mem_cons_of_mem _ hb))⟩
    obtain ⟨y, hy, e⟩ := List.mem_map.mp q
    have := hi y (List.mem_cons_of_mem _ hy) x List.mem_cons_self e
    subst this
    exact h1 hy
theorem w_ct_77 {A : a_A} (hW : aW A) (hcl : aCl (aD A) (aV A) (aN A)) (hg : gW (aV A) (aG A)) {f : Nat} (hf : f < aF A) (hr : a_nd (aN A) (aR A f) (aT A f)) : w_ct A f (gN (aG A) - 2) ≤ 77 := by
  have hnd : (aN A).Nodup := a_all_nd _ _ _ _
  have hrN : aR A f < gN (aG A) := a_nd_lt hr
  have uniq : ∀ {T U : a_T}, a_nd (aN A) (aR A f) T → a_nd (aN A) (aR A f) U → T = U := fun {T U} h1 h2 => by
    rcases h1 with ⟨a1, a2⟩ | ⟨a1, a2⟩ | ⟨a1, a2⟩ <;> rcases h2 with ⟨b1, b2⟩ | ⟨b1, b2⟩ | ⟨b1, b2⟩ <;> first | omega | (rw [a2, b2]) | (exact Option.some.inj (a2.symm.trans b2))
  let P : Nat → Bool := fun i => g_rc (aG A) (aV A) (aR A f) (i + 2)
  have ect : ∀ n, w_ct A f n = ((List.range n).filter P).length := fun n => by
    induction n with
    | zero => rfl
    | succ n ih =>
      rw [List.range_succ, List.filter_append, List.length_append, ← ih]
      show w_ct A f n + (if P n then 1 else 0) = _
      by_cases h : P n = true
      · rw [if_pos h, List.filter_cons_of_pos h]; rfl
      · rw [if_neg h, List.filter_cons_of_neg h]; rfl
  rw [ect]
  have hmap : (((List.range (gN (aG A) - 2)).filter P).map (fun i => a_Tk (aN A) (i + 2))).length ≤ 77 := by
    refine a_one_77 (F := aT A f) hW.2.1 ?_ (fun U hU => ?_)
    · refine a_ndmap _ _ (List.nodup_range.filter P) (fun i hi j hj e => ?_)
      have hi := List.mem_range.mp (List.mem_filter.mp hi).1
      have hj := List.mem_range.mp (List.mem_filter.mp hj).1
      have hN : gN (aG A) = (aN A).length + 2 := rfl
      have hi2 : i < (aN A).length := by omega
      have hj2 : j < (aN A).length := by omega
      have ei : a_Tk (aN A) (i + 2) = (aN A)[i] := by unfold a_Tk; rw [Nat.add_sub_cancel, List.getElem?_eq_getElem hi2]; rfl
      have ej : a_Tk (aN A) (j + 2) = (aN A)[j] := by unfold a_Tk; rw [Nat.add_sub_cancel, List.getElem?_eq_getElem hj2]; rfl
      rw [ei, ej] at e
      exact (a_fx_nd _ i _ hnd (List.getElem?_eq_getElem hi2)).symm.trans ((congrArg (a_fx (aN A)) e).trans (a_fx_nd _ j _ hnd (List.getElem?_eq_getElem hj2)))
    · obtain ⟨i, hi, rfl⟩ := List.mem_map.mp hU
      obtain ⟨h1, h2⟩ := List.mem_filter.mp hi
      have h1 := List.mem_range.mp h1
      exact a_rc_in hW hcl hg (aV A) (aR A f) (i + 2) hrN (fun T hT => by
        rw [uniq hT hr]
        exact ⟨hW.2.2.2.1 f hf, 0, 0, Nat.zero_le _, by decide, rfl⟩) h2 (by omega) (by omega)
  rwa [List.length_map] at hmap
theorem w_fs_1600 {A : a_A} (hW : aW A) (hcl : aCl (aD A) (aV A) (aN A)) (hg : gW (aV A) (aG A)) {f : Nat} (hf : f < aF A) (hr : a_nd (aN A) (aR A f) (aT A f)) : ∀ k, k + 2 ≤ gN (aG A) → (w_fs A f k).length ≤ 1543 := fun k hk => by
  have h1 := w_fs_mono A f k (gN (aG A) - 2 - k)
  rw [show k + (gN (aG A) - 2 - k) = gN (aG A) - 2 by omega] at h1
  have h2 := w_fs_le hW hg f (gN (aG A) - 2) (by have := hg.1; omega)
  have h3 := w_ct_77 hW hcl hg hf hr
  omega
