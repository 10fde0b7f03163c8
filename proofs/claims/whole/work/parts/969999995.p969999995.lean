/-! PAIRS (pure): what is met when two functions are followed together -/
abbrev pP : Type := Nat × Nat
def pL (g : a_Gr) (z : pP) : Nat := if gL g z.1 ≤ gL g z.2 then gL g z.1 else gL g z.2
def pO (g : a_Gr) (z : pP) : pP := (if gL g z.1 ≤ gL g z.2 then gO g z.1 else z.1, if gL g z.2 ≤ gL g z.1 then gO g z.2 else z.2)
def pH (g : a_Gr) (z : pP) : pP := (if gL g z.1 ≤ gL g z.2 then gH g z.1 else z.1, if gL g z.2 ≤ gL g z.1 then gH g z.2 else z.2)
def pIn (g : a_Gr) (z : pP) : Prop := z.1 < gN g ∧ z.2 < gN g
/-- the walk of k levels from z by the code c -/
def pK (g : a_Gr) (z : pP) : Nat → Nat → pP
  | 0, _ => z
  | k + 1, c => if pL g (pK g z k (c / 2)) = k then (if c % 2 = 1 then pH g (pK g z k (c / 2)) else pO g (pK g z k (c / 2))) else pK g z k (c / 2)
def pR (g : a_Gr) (z y : pP) : Prop := pIn g y ∧ ∃ c, c < 2 ^ pL g y ∧ pK g z (pL g y) c = y
section PP
variable {nv : Nat} {g : a_Gr} {z y : pP}
theorem pL_le (hg : gW nv g) (h : pIn g y) : pL g y ≤ nv := by
  unfold pL
  split
  · exact hg.le h.1
  · exact hg.le h.2
theorem pL_lf (hg : gW nv g) (h : pIn g y) (e : pL g y = nv) : y.1 < 2 ∧ y.2 < 2 := by
  have h1 := hg.le h.1
  have h2 := hg.le h.2
  have e1 : gL g y.1 = nv ∧ gL g y.2 = nv := by
    unfold pL at e
    split at e <;> omega
  refine ⟨?_, ?_⟩
  · by_cases q : y.1 < 2
    · exact q
    · have := (hg.2.2.2.2 y.1 (by omega) h.1).1
      omega
  · by_cases q : y.2 < 2
    · exact q
    · have := (hg.2.2.2.2 y.2 (by omega) h.2).1
      omega
/-- the children lie deeper -/
theorem pC (hg : gW nv g) (h : pIn g y) (hl : pL g y < nv) : (pIn g (pO g y) ∧ pL g y < pL g (pO g y)) ∧ pIn g (pH g y) ∧ pL g y < pL g (pH g y) := by
  obtain ⟨a, b⟩ := y
  obtain ⟨ha, hb⟩ := h
  have la := hg.le ha
  have lb := hg.le hb
  have ca : gL g a < nv → gO g a < gN g ∧ gH g a < gN g ∧ gL g a < gL g (gO g a) ∧ gL g a < gL g (gH g a) := fun q => (hg.2.2.2.2 a (hg.in q) ha).2
  have cb : gL g b < nv → gO g b < gN g ∧ gH g b < gN g ∧ gL g b < gL g (gO g b) ∧ gL g b < gL g (gH g b) := fun q => (hg.2.2.2.2 b (hg.in q) hb).2
  unfold pL pO pH pIn at *
  dsimp only at *
  by_cases h1 : gL g a ≤ gL g b
  · by_cases h2 : gL g b ≤ gL g a
    · simp only [if_pos h1, if_pos h2] at *
      obtain ⟨a1, a2, a3, a4⟩ := ca hl
      obtain ⟨b1, b2, b3, b4⟩ := cb (by omega)
      refine ⟨⟨⟨a1, b1⟩, ?_⟩, ⟨a2, b2⟩, ?_⟩
      · split <;> omega
      · split <;> omega
    · simp only [if_pos h1, if_neg h2] at *
      obtain ⟨a1, a2, a3, a4⟩ := ca hl
      refine ⟨⟨⟨a1, hb⟩, ?_⟩, ⟨a2, hb⟩, ?_⟩
      · split <;> omega
      · split <;> omega
  · have h2 : gL g b ≤ gL g a := by omega
    simp only [if_neg h1, if_pos h2] at *
    obtain ⟨b1, b2, b3, b4⟩ := cb hl
    refine ⟨⟨⟨ha, b1⟩, ?_⟩, ⟨ha, b2⟩, ?_⟩
    · split <;> omega
    · split <;> omega
/-- a walk stays where nothing is tested -/
theorem pK_st {k c : Nat} (h : pK g z k c = y) : ∀ j, k + j ≤ pL g y → pK g z (k + j) (c * 2 ^ j) = y := by
  intro j
  induction j with
  | zero => exact fun _ => by rw [Nat.pow_zero, Nat.mul_one]; exact h
  | succ j ih =>
    intro hj
    have h1 := ih (by omega)
    have e : c * 2 ^ (j + 1) / 2 = c * 2 ^ j := by rw [Nat.pow_succ, ← Nat.mul_assoc, Nat.mul_div_cancel _ (by decide)]
    show (if pL g (pK g z (k + j) (c * 2 ^ (j + 1) / 2)) = k + j then _ else pK g z (k + j) (c * 2 ^ (j + 1) / 2)) = y
    rw [e, h1, if_neg (by omega)]
theorem pK_w (h : pIn g y) {k c : Nat} (hc : c < 2 ^ k) (hk : k ≤ pL g y) (e : pK g z k c = y) : pR g z y := by
  refine ⟨h, c * 2 ^ (pL g y - k), ?_, ?_⟩
  · have : 2 ^ pL g y = 2 ^ k * 2 ^ (pL g y - k) := by rw [← Nat.pow_add]; congr 1; omega
    rw [this]
    exact Nat.mul_lt_mul_of_pos_right hc (Nat.two_pow_pos _)
  · have := pK_st e (pL g y - k) (by omega)
    rwa [show k + (pL g y - k) = pL g y by omega] at this
theorem pR_0 (h : pIn g z) : pR g z z := pK_w h (k := 0) (c := 0) (by decide) (Nat.zero_le _) rfl
theorem pR_O (hg : gW nv g) (h : pR g z y) (hl : pL g y < nv) : pR g z (pO g y) ∧ pR g z (pH g y) := by
  obtain ⟨h1, c, hc, e⟩ := h
  obtain ⟨⟨c1, c2⟩, c3, c4⟩ := pC hg h1 hl
  refine ⟨pK_w c1 (k := pL g y + 1) (c := 2 * c) (by rw [Nat.pow_succ]; omega) c2 ?_, pK_w c3 (k := pL g y + 1) (c := 2 * c + 1) (by rw [Nat.pow_succ]; omega) c4 ?_⟩
  · show (if pL g (pK g z (pL g y) (2 * c / 2)) = pL g y then (if 2 * c % 2 = 1 then pH g (pK g z (pL g y) (2 * c / 2)) else pO g (pK g z (pL g y) (2 * c / 2))) else pK g z (pL g y) (2 * c / 2)) = _
    rw [show 2 * c / 2 = c by omega, e, if_pos rfl, if_neg (by omega)]
  · show (if pL g (pK g z (pL g y) ((2 * c + 1) / 2)) = pL g y then (if (2 * c + 1) % 2 = 1 then pH g (pK g z (pL g y) ((2 * c + 1) / 2)) else pO g (pK g z (pL g y) ((2 * c + 1) / 2))) else pK g z (pL g y) ((2 * c + 1) / 2)) = _
    rw [show (2 * c + 1) / 2 = c by omega, e, if_pos rfl, if_pos (by omega)]
/-- a set that holds the first pair and the children of all holds all that are reached -/
theorem pR_in (hg : gW nv g) (hz : pIn g z) {M : List pP} (h0 : z ∈ M) (hc : ∀ x, x ∈ M → pL g x < nv → pO g x ∈ M ∧ pH g x ∈ M) : ∀ y, pR g z y → y ∈ M := by
  have key : ∀ k, k ≤ nv → ∀ c, pK g z k c ∈ M := by
    intro k
    induction k with
    | zero => exact fun _ _ => h0
    | succ k ih =>
      intro hk c
      have h1 := ih (by omega) (c / 2)
      show (if pL g (pK g z k (c / 2)) = k then (if c % 2 = 1 then pH g (pK g z k (c / 2)) else pO g (pK g z k (c / 2))) else pK g z k (c / 2)) ∈ M
      split
      · rename_i e
        have h2 := hc _ h1 (by omega)
        split
        · exact h2.2
        · exact h2.1
      · exact h1
  rintro y ⟨h1, c, -, e⟩
  rw [← e]
  exact key _ (pL_le hg h1) c
/-- at most 259 -/
theorem p_259 (hg : gW nv g) {M : List pP} (hn : M.Nodup) (hR : ∀ y, y ∈ M → pR g z y) : M.length ≤ 259 := by
  obtain ⟨f, hf⟩ := Classical.axiomOfChoice (fun y : pP => (show ∃ c, pR g z y → c < 2 ^ pL g y ∧ pK g z (pL g y) c = y from by
    by_cases h : pR g z y
    · obtain ⟨-, c, h1, h2⟩ := id h
      exact ⟨c, fun _ => ⟨h1, h2⟩⟩
    · exact ⟨0, fun q => absurd q h⟩))
  have h8 := hg.2.2.1
  refine a_pigL (fun y => if pL g y < nv then 2 ^ pL g y - 1 + f y else 255 + (2 * y.1 + y.2)) hn (fun y hy => ?_) (fun y hy w hw e => ?_)
  · have h1 := hR y hy
    obtain ⟨h2, h3⟩ := hf y h1
    show (if pL g y < nv then 2 ^ pL g y - 1 + f y else 255 + (2 * y.1 + y.2)) < 259
    split
    · rename_i hl
      have : 2 ^ pL g y ≤ 2 ^ 7 := Nat.pow_le_pow_right (by decide) (by omega)
      have e7 : (2 : Nat) ^ 7 = 128 := by decide
      omega
    · have := pL_lf hg h1.1 (by have := pL_le hg h1.1; omega)
      omega
  · have h1 := hR y hy
    have h2 := hR w hw
    obtain ⟨a1, a2⟩ := hf y h1
    obtain ⟨b1, b2⟩ := hf w h2
    have e : (if pL g y < nv then 2 ^ pL g y - 1 + f y else 255 + (2 * y.1 + y.2)) = (if pL g w < nv then 2 ^ pL g w - 1 + f w else 255 + (2 * w.1 + w.2)) := e
    have lo : ∀ {x : pP}, pL g x < nv → f x < 2 ^ pL g x → 2 ^ pL g x - 1 + f x < 255 := fun {x} hl hx => by
      have : 2 ^ pL g x ≤ 2 ^ 7 := Nat.pow_le_pow_right (by decide) (by omega)
      have e7 : (2 : Nat) ^ 7 = 128 := by decide
      omega
    by_cases ly : pL g y < nv
    · by_cases lw : pL g w < nv
      · rw [if_pos ly, if_pos lw] at e
        have py := Nat.two_pow_pos (pL g y)
        have pw := Nat.two_pow_pos (pL g w)
        have el : pL g y = pL g w := by
          rcases Nat.lt_trichotomy (pL g y) (pL g w) with h | h | h
          · have : 2 ^ (pL g y + 1) ≤ 2 ^ pL g w := Nat.pow_le_pow_right (by decide) h
            rw [Nat.pow_succ] at this
            omega
          · exact h
          · have : 2 ^ (pL g w + 1) ≤ 2 ^ pL g y := Nat.pow_le_pow_right (by decide) h
            rw [Nat.pow_succ] at this
            omega
        rw [el] at e a2
        have ef : f y = f w := by omega
        exact a2.symm.trans ((congrArg (pK g z (pL g w)) ef).trans b2)
      · rw [if_pos ly, if_neg lw] at e
        have := lo ly a1
        omega
    · by_cases lw : pL g w < nv
      · rw [if_neg ly, if_pos lw] at e
        have := lo lw b1
        omega
      · rw [if_neg ly, if_neg lw] at e
        have y2 := pL_lf hg h1.1 (by have := pL_le hg h1.1; omega)
        have w2 := pL_lf hg h2.1 (by have := pL_le hg h2.1; omega)
        exact Prod.ext (by omega) (by omega)
end PP
/-- two lists of the same things, without doubles, are as long -/
theorem a_nd_le {α : Type} {L M : List α} (hn : L.Nodup) (h : ∀ x, x ∈ L → x ∈ M) : L.length ≤ M.length := by
  obtain ⟨f, hf⟩ := Classical.axiomOfChoice (fun x : α => (show ∃ i, x ∈ L → M[i]? = some x from by
    by_cases hx : x ∈ L
    · obtain ⟨i, hi⟩ := List.mem_iff_getElem?.mp (h x hx)
      exact ⟨i, fun _ => hi⟩
    · exact ⟨0, fun q => absurd q hx⟩))
  refine a_pigL f hn (fun x hx => (List.getElem?_eq_some_iff.mp (hf x hx)).1) (fun x hx y hy e => ?_)
  have h1 := hf x hx
  rw [e, hf y hy] at h1
  exact (Option.some.inj h1).symm
/-- the reference's way: the list of the pairs met -/
def g_mt (g : a_Gr) (nv : Nat) : Nat → List pP → pP → List pP
  | 0, L, _ => L
  | n + 1, L, z => if z ∈ L then L else if pL g z < nv then g_mt g nv n (g_mt g nv n (L ++ [z]) (pO g z)) (pH g z) else L ++ [z]
theorem g_mt_ok {nv : Nat} {g : a_Gr} (hg : gW nv g) {z : pP} : ∀ n (L : List pP) y, nv < n + pL g y → pR g z y → L.Nodup → (∀ w, w ∈ L → pR g z w) → (g_mt g nv n L y).Nodup ∧ (∀ w, w ∈ g_mt g nv n L y → pR g z w) ∧ (∀ w, w ∈ L → w ∈ g_mt g nv n L y) ∧ y ∈ g_mt g nv n L y ∧ ∀ w, w ∈ g_mt g nv n L y → w ∈ L ∨ (pL g w < nv → pO g w ∈ g_mt g nv n L y ∧ pH g w ∈ g_mt g nv n L y) := by
  intro n
  induction n with
  | zero =>
    intro L y hn hR _ _
    have := pL_le hg hR.1
    exact absurd hn (by omega)
  | succ n ih =>
    intro L y hn hR hL hLR
    show (if y ∈ L then L else if pL g y < nv then g_mt g nv n (g_mt g nv n (L ++ [y]) (pO g y)) (pH g y) else L ++ [y]).Nodup ∧ _
    have hd : g_mt g nv (n + 1) L y = (if y ∈ L then L else if pL g y < nv then g_mt g nv n (g_mt g nv n (L ++ [y]) (pO g y)) (pH g y) else L ++ [y]) := rfl
    rw [hd]
    by_cases hy : y ∈ L
    · rw [if_pos hy]
      exact ⟨hL, hLR, fun _ h => h, hy, fun w h => Or.inl h⟩
    · rw [if_neg hy]
      have hn1 : (L ++ [y]).Nodup := List.nodup_append.mpr ⟨hL, List.nodup_cons.mpr ⟨List.not_mem_nil, List.nodup_nil⟩, fun a ha b hb e => hy (by rw [List.mem_singleton] at hb; rw [← hb, ← e]; exact ha)⟩
      have hr1 : ∀ w, w ∈ L ++ [y] → pR g z w := fun w hw => by
        rcases List.mem_append.mp hw with h | h
        · exact hLR w h
        · rw [List.mem_singleton.mp h]
          exact hR
      have hyL : y ∈ L ++ [y] := List.mem_append.mpr (Or.inr (List.mem_singleton.mpr rfl))
      by_cases hl : pL g y < nv
      · rw [if_pos hl]
        obtain ⟨r1, r2⟩ := pR_O hg hR hl
        obtain ⟨⟨-, l1⟩, -, l2⟩ := pC hg hR.1 hl
        obtain ⟨a1, a2, a3, a4, a5⟩ := ih (L ++ [y]) (pO g y) (by omega) r1 hn1 hr1
        obtain ⟨b1, b2, b3, b4, b5⟩ := ih (g_mt g nv n (L ++ [y]) (pO g y)) (pH g y) (by omega) r2 a1 a2
        refine ⟨b1, b2, fun w h => b3 w (a3 w (List.mem_append.mpr (Or.inl h))), b3 y (a3 y hyL), fun w h => ?_⟩
        rcases b5 w h with h | h
        · rcases a5 w h with h | h
          · rcases List.mem_append.mp h with h | h
            · exact Or.inl h
            · rw [List.mem_singleton.mp h]
              exact Or.inr (fun _ => ⟨b3 _ a4, b4⟩)
          · exact Or.inr (fun q => ⟨b3 _ (h q).1, b3 _ (h q).2⟩)
        · exact Or.inr h
      · rw [if_neg hl]
        refine ⟨hn1, hr1, fun w h => List.mem_append.mpr (Or.inl h), hyL, fun w h => ?_⟩
        rcases List.mem_append.mp h with h | h
        · exact Or.inl h
        · rw [List.mem_singleton.mp h]
          exact Or.inr (fun q => absurd q hl)
/-- the number of pairs -/
def g_pr (g : a_Gr) (nv : Nat) (z : pP) : Nat := (g_mt g nv (nv + 1) [] z).length
theorem g_pr_eq {nv : Nat} {g : a_Gr} (hg : gW nv g) {z : pP} (hz : pIn g z) {M : List pP} (hn : M.Nodup) (hR : ∀ y, y ∈ M → pR g z y) (h0 : z ∈ M) (hc : ∀ x, x ∈ M → pL g x < nv → pO g x ∈ M ∧ pH g x ∈ M) : M.length = g_pr g nv z := by
  obtain ⟨a1, a2, -, a4, a5⟩ := g_mt_ok hg (z := z) (nv + 1) [] z (by omega) (pR_0 hz) List.nodup_nil (fun w h => absurd h List.not_mem_nil)
  refine Nat.le_antisymm (a_nd_le hn (fun x hx => pR_in hg hz a4 (fun w hw hl => ?_) x (hR x hx))) (a_nd_le a1 (fun x hx => pR_in hg hz h0 hc x (a2 x hx)))
  rcases a5 w hw with h | h
  · exact absurd h List.not_mem_nil
  · exact h hl
