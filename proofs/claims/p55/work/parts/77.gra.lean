def a_fx : List a_T → a_T → Nat
  | [], _ => 0
  | U :: us, T => if U = T then 0 else a_fx us T + 1
theorem a_fx_nd : ∀ (ts : List a_T) (i : Nat) (T : a_T), ts.Nodup → ts[i]? = some T → a_fx ts T = i
  | [], i, T, _, h => by simp at h
  | U :: us, 0, T, _, h => by
    have : U = T := Option.some.inj h
    unfold a_fx
    rw [if_pos this]
  | U :: us, i + 1, T, hn, h => by
    have h2 : us[i]? = some T := h
    have hm : T ∈ us := List.mem_of_getElem? h2
    unfold a_fx
    rw [if_neg (fun e : U = T => (List.nodup_cons.mp hn).1 (e ▸ hm)), a_fx_nd us i T (List.nodup_cons.mp hn).2 h2]
def a_ix (ts : List a_T) (T : a_T) : Nat := if T = a_zero then 0 else if T = a_one then 1 else a_fx ts T + 2
theorem a_nd_ix {ts : List a_T} {k : Nat} {T : a_T} (h : a_nd ts k T) (hn : ts.Nodup) (h01 : a_zero ∉ ts ∧ a_one ∉ ts) : a_ix ts T = k := by
  unfold a_ix
  rcases h with ⟨rfl, rfl⟩ | ⟨rfl, rfl⟩ | ⟨h2, h3⟩
  · rw [if_pos rfl]
  · rw [if_neg (fun e : a_one = a_zero => a_z1 e.symm), if_pos rfl]
  · have hm := List.mem_of_getElem? h3
    rw [if_neg (fun e : T = a_zero => h01.1 (e ▸ hm)), if_neg (fun e : T = a_one => h01.2 (e ▸ hm)), a_fx_nd ts _ T hn h3]
    omega
theorem a_nd_lt {ts : List a_T} {k : Nat} {T : a_T} (h : a_nd ts k T) : k < ts.length + 2 := by
  rcases h with ⟨rfl, -⟩ | ⟨rfl, -⟩ | ⟨h2, h3⟩
  · omega
  · omega
  · have := (List.getElem?_eq_some_iff.mp h3).1
    omega
abbrev a_Gr : Type := Nat × (Nat → Nat) × (Nat → Nat) × (Nat → Nat)
abbrev gN (g : a_Gr) : Nat := g.1
abbrev gL (g : a_Gr) : Nat → Nat := g.2.1
abbrev gO (g : a_Gr) : Nat → Nat := g.2.2.1
abbrev gH (g : a_Gr) : Nat → Nat := g.2.2.2
def a_Tk (ts : List a_T) (k : Nat) : a_T := (ts[k - 2]?).getD a_zero
def a_gr (ord : Nat → Nat) (nv : Nat) (ts : List a_T) : a_Gr := (ts.length + 2, fun k => if 2 ≤ k ∧ k < ts.length + 2 then a_lev ord (a_Tk ts k) 0 nv else nv, fun k => a_ix ts (a_cf (a_Tk ts k) (ord (a_lev ord (a_Tk ts k) 0 nv)) false), fun k => a_ix ts (a_cf (a_Tk ts k) (ord (a_lev ord (a_Tk ts k) 0 nv)) true))
/-- a graph whose levels rise -/
def gW (nv : Nat) (g : a_Gr) : Prop := 2 ≤ gN g ∧ gN g ≤ 628 ∧ nv ≤ 8 ∧ (∀ k, k < 2 → gL g k = nv) ∧ ∀ k, 2 ≤ k → k < gN g → gL g k < nv ∧ gO g k < gN g ∧ gH g k < gN g ∧ gL g k < gL g (gO g k) ∧ gL g k < gL g (gH g k)
theorem gW.le {nv : Nat} {g : a_Gr} (h : gW nv g) {k : Nat} (hk : k < gN g) : gL g k ≤ nv := by
  by_cases h2 : k < 2
  · exact Nat.le_of_eq (h.2.2.2.1 k h2)
  · exact Nat.le_of_lt (h.2.2.2.2 k (by omega) hk).1
def aCl (ord : Nat → Nat) (nv : Nat) (ts : List a_T) : Prop := ∀ i, i < ts.length → ∃ T kl kh, ts[i]? = some T ∧ a_lev ord T 0 nv < nv ∧ a_nd ts kl (a_cf T (ord (a_lev ord T 0 nv)) false) ∧ a_nd ts kh (a_cf T (ord (a_lev ord T 0 nv)) true)
theorem a_gr_at {ord : Nat → Nat} {nv : Nat} {ts : List a_T} (hn : ts.Nodup) (h01 : a_zero ∉ ts ∧ a_one ∉ ts) {k : Nat} (h2 : 2 ≤ k) {T : a_T} (hT : ts[k - 2]? = some T) : gL (a_gr ord nv ts) k = a_lev ord T 0 nv ∧ (∀ x, a_nd ts x (a_cf T (ord (a_lev ord T 0 nv)) false) → gO (a_gr ord nv ts) k = x) ∧ (∀ x, a_nd ts x (a_cf T (ord (a_lev ord T 0 nv)) true) → gH (a_gr ord nv ts) k = x) := by
  have e : a_Tk ts k = T := by
    unfold a_Tk
    rw [hT]
    rfl
  have hl := (List.getElem?_eq_some_iff.mp hT).1
  refine ⟨?_, fun x hx => ?_, fun x hx => ?_⟩
  · show (if 2 ≤ k ∧ k < ts.length + 2 then a_lev ord (a_Tk ts k) 0 nv else nv) = _
    rw [if_pos ⟨h2, by omega⟩, e]
  · show a_ix ts (a_cf (a_Tk ts k) (ord (a_lev ord (a_Tk ts k) 0 nv)) false) = x
    rw [e]
    exact a_nd_ix hx hn h01
  · show a_ix ts (a_cf (a_Tk ts k) (ord (a_lev ord (a_Tk ts k) 0 nv)) true) = x
    rw [e]
    exact a_nd_ix hx hn h01
theorem a_gr_up {ord : Nat → Nat} {nv : Nat} {ts : List a_T} (ho : ∀ j, j < nv → ord j < 8) (hn : ts.Nodup) (h01 : a_zero ∉ ts ∧ a_one ∉ ts) {T : a_T} (hl : a_lev ord T 0 nv < nv) {x : Nat} {b : Bool} (hx : a_nd ts x (a_cf T (ord (a_lev ord T 0 nv)) b)) : a_lev ord T 0 nv < gL (a_gr ord nv ts) x := by
  by_cases h2 : 2 ≤ x
  · have hT : ts[x - 2]? = some (a_cf T (ord (a_lev ord T 0 nv)) b) := by
      rcases hx with ⟨rfl, -⟩ | ⟨rfl, -⟩ | ⟨-, h⟩
      · omega
      · omega
      · exact h
    rw [(a_gr_at hn h01 h2 hT).1]
    refine a_lev_ge (k := a_lev ord T 0 nv + 1) (by omega) (fun j hj => ?_)
    rcases Nat.lt_or_eq_of_le (Nat.le_of_lt_succ hj) with h | rfl
    · exact a_cf_dp (ho _ hl) (ho _ (by omega)) b (a_lev_no ord T nv 0 j (Nat.zero_le _) h)
    · exact a_cf_self T (ho _ hl) b
  · show _ < (if 2 ≤ x ∧ x < ts.length + 2 then a_lev ord (a_Tk ts x) 0 nv else nv)
    rw [if_neg (fun q => h2 q.1)]
    exact hl
theorem a_gr_W {ord : Nat → Nat} {nv : Nat} {ts : List a_T} (ho : ∀ j, j < nv → ord j < 8) (h8 : nv ≤ 8) (hn : ts.Nodup) (h01 : a_zero ∉ ts ∧ a_one ∉ ts) (hl : ts.length ≤ 626) (h : aCl ord nv ts) : gW nv (a_gr ord nv ts) := by
  refine ⟨by show 2 ≤ ts.length + 2; omega, by show ts.length + 2 ≤ 628; omega, h8, fun k hk => ?_, fun k hk hlt => ?_⟩
  · show (if 2 ≤ k ∧ k < ts.length + 2 then a_lev ord (a_Tk ts k) 0 nv else nv) = nv
    rw [if_neg (by omega)]
  · have hlt : k < ts.length + 2 := hlt
    obtain ⟨T, kl, kh, e, h1, h2, h3⟩ := h (k - 2) (by omega)
    obtain ⟨g1, g2, g3⟩ := a_gr_at (ord := ord) (nv := nv) hn h01 hk e
    rw [g1, g2 kl h2, g3 kh h3]
    exact ⟨h1, a_nd_lt h2, a_nd_lt h3, a_gr_up ho hn h01 h1 h2, a_gr_up ho hn h01 h1 h3⟩
/-- node y is met on a way down from k -/
def g_rc (g : a_Gr) : Nat → Nat → Nat → Bool
  | 0, k, y => y == k
  | m + 1, k, y => y == k || (decide (2 ≤ k) && (g_rc g m (gO g k) y || g_rc g m (gH g k) y))
theorem g_rc_lf (g : a_Gr) (m k y : Nat) (h : k < 2) : g_rc g m k y = (y == k) := by
  cases m with
  | zero => rfl
  | succ m =>
    unfold g_rc
    rw [decide_eq_false (by omega), Bool.false_and, Bool.or_false]
theorem g_rc_in (g : a_Gr) (m k y : Nat) (h : 2 ≤ k) : g_rc g (m + 1) k y = (y == k || g_rc g m (gO g k) y || g_rc g m (gH g k) y) := by
  show (y == k || (decide (2 ≤ k) && (g_rc g m (gO g k) y || g_rc g m (gH g k) y))) = _
  rw [decide_eq_true h, Bool.true_and, Bool.or_assoc]
/-- more steps than levels change nothing -/
theorem g_rc_m {nv : Nat} {g : a_Gr} (hg : gW nv g) : ∀ m m' k y, k < gN g → nv ≤ gL g k + m → nv ≤ gL g k + m' → g_rc g m k y = g_rc g m' k y
  | 0, m', k, y, hk, h1, h2 => by
    have : k < 2 := Decidable.byContradiction fun q => by
      have := (hg.2.2.2.2 k (by omega) hk).1
      omega
    rw [g_rc_lf g _ k y this, g_rc_lf g _ k y this]
  | m + 1, 0, k, y, hk, h1, h2 => by
    have : k < 2 := Decidable.byContradiction fun q => by
      have := (hg.2.2.2.2 k (by omega) hk).1
      omega
    rw [g_rc_lf g _ k y this, g_rc_lf g _ k y this]
  | m + 1, m' + 1, k, y, hk, h1, h2 => by
    by_cases h : k < 2
    · rw [g_rc_lf g _ k y h, g_rc_lf g _ k y h]
    · obtain ⟨q1, q2, q3, q4, q5⟩ := hg.2.2.2.2 k (by omega) hk
      rw [g_rc_in g m k y (by omega), g_rc_in g m' k y (by omega), g_rc_m hg m m' _ y q2 (by omega) (by omega), g_rc_m hg m m' _ y q3 (by omega) (by omega)]
/-- way down from a node that is met -/
theorem g_rc_tr {nv : Nat} {g : a_Gr} (hg : gW nv g) : ∀ m k y z, k < gN g → nv ≤ gL g k + m → g_rc g m k y = true → g_rc g nv y z = true → g_rc g m k z = true
  | 0, k, y, z, hk, h1, h2, h3 => by
    have e : y = k := by simpa [g_rc] using h2
    subst e
    rw [g_rc_m hg 0 nv y z hk h1 (by omega)]
    exact h3
  | m + 1, k, y, z, hk, h1, h2, h3 => by
    by_cases h : k < 2
    · rw [g_rc_lf g _ k y h] at h2
      have e : y = k := by simpa using h2
      subst e
      rw [g_rc_m hg (m + 1) nv y z hk h1 (by omega)]
      exact h3
    · obtain ⟨q1, q2, q3, q4, q5⟩ := hg.2.2.2.2 k (by omega) hk
      rw [g_rc_in g m k y (by omega), Bool.or_eq_true, Bool.or_eq_true] at h2
      rcases h2 with (h2 | h2) | h2
      · have e : y = k := by simpa using h2
        subst e
        rw [g_rc_m hg (m + 1) nv y z hk h1 (by omega)]
        exact h3
      · rw [g_rc_in g m k z (by omega), g_rc_tr hg m _ y z q2 (by omega) h2 h3, Bool.or_true, Bool.true_or]
      · rw [g_rc_in g m k z (by omega), g_rc_tr hg m _ y z q3 (by omega) h2 h3, Bool.or_true]
/-- marks of nodes: those of level l and more are marked with all below them -/
def gCl (g : a_Gr) (nv l : Nat) (M : Nat → Bool) : Prop := ∀ k, k < gN g → l ≤ gL g k → M k = true → ∀ y, g_rc g nv k y = true → M y = true
