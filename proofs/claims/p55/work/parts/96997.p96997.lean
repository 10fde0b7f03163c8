abbrev zEr : Type := Int32 × Nat
abbrev zRs : Type := Option (zEr ⊕ (a_T × Nat))
def zB (r : zRs) (f : a_T → Nat → zRs) : zRs := match r with
  | none => none
  | some (.inl e) => some (.inl e)
  | some (.inr (T, q)) => f T q
abbrev zErr (c : Int32) (l : List Nat) (p : Nat) : zRs := some (.inl (c, k_S l p))
def k_sg (lvl : Nat) : Nat := [61, 62, 124, 94, 38].getD lvl 0
def k_op (lvl : Nat) : Int32 := [4, 3, 1, 2, 0].getD lvl 0
def k_v (A : a_A) (l : List Nat) (p : Nat) : Option Nat := k_at (aVN A) (aV A) l p
def k_f (A : a_A) (l : List Nat) (p : Nat) : Option Nat := k_at (aFN A) (aF A) l p
def z_cst (b : Bool) : a_T := if b then a_one else a_zero
def zP (A : a_A) (l : List Nat) : Nat → Nat → Option a_T → Nat → Nat → zRs
  | 0, _, _, _, _ => none
  | n + 1, lvl, acc, o, p => match acc with
    | some T => if k_is l p (k_sg lvl) = true then zB (zP A l n (lvl + 1) none o (k_E l p)) (fun U q => if lvl = 1 then some (.inr (a_op (k_op lvl) T U, q)) else zP A l n lvl (some (a_op (k_op lvl) T U)) o q) else some (.inr (T, p))
    | none => if lvl < 5 then zB (zP A l n (lvl + 1) none o p) (fun T q => zP A l n lvl (some T) o q)
      else if k_is l p 33 = true then zB (zP A l n 5 none o (k_E l p)) (fun T q => some (.inr (a_not T, q)))
      else if (k_wd l p w_all || k_wd l p w_some) = true then (if k_nm l (k_E l p) = true then (match k_v A l (k_E l p) with
          | none => zErr 3 l (k_E l p)
          | some v => zB (zP A l n 5 none o (k_E l (k_E l p))) (fun T q => some (.inr (a_qu (k_wd l p w_all) v T, q))))
        else zErr 1 l (k_E l p))
      else if k_wd l p w_if = true then (if k_is l (k_E l p) 40 = true then (if o = 20 then zErr 5 l (k_E l p) else
          zB (zP A l n 0 none (o + 1) (k_E l (k_E l p))) (fun c q => if k_is l q 44 = true then zB (zP A l n 0 none (o + 1) (k_E l q)) (fun x q => if k_is l q 44 = true then zB (zP A l n 0 none (o + 1) (k_E l q)) (fun y q => if k_is l q 41 = true then some (.inr (a_sel c x y, k_E l q)) else zErr 1 l q) else zErr 1 l q) else zErr 1 l q))
        else zErr 1 l (k_E l p))
      else if k_is l p 40 = true then (if o = 20 then zErr 5 l p else zB (zP A l n 0 none (o + 1) (k_E l p)) (fun T q => if k_is l q 41 = true then some (.inr (T, k_E l q)) else zErr 1 l q))
      else if k_K l p = 1 then (match k_v A l p with
        | some v => some (.inr (a_var v, k_E l p))
        | none => match k_f A l p with
          | some f => some (.inr (aT A f, k_E l p))
          | none => zErr 3 l p)
      else if k_bit l p = true then some (.inr (z_cst (decide (k_N l p = 1)), k_E l p))
      else zErr 1 l p
theorem k_N_lt {l : List Nat} {p : Nat} (hp : p ≤ l.length) (h2 : k_K l p = 2) : k_N l p < 1000 := by
  have h3 := h2
  unfold k_K at h3
  split at h3
  · split at h3 <;> cases h3
  · split at h3
    · split at h3
      · rename_i hb3
        have hlen : ((l.drop (k_S l p)).take (k_b l p)).length = k_b l p := k_run_len (k_S_le hp) (Nat.le_refl _)
        have := k_num_lt ((l.drop (k_S l p)).take (k_b l p)) (fun c hc => by
          have := k_run_P (P := kDg) (Nat.le_refl _) c hc
          rw [Bool.and_eq_true, decide_eq_true_eq, decide_eq_true_eq] at this
          exact this.2)
        rw [hlen] at this
        exact Nat.lt_of_lt_of_le this (Nat.pow_le_pow_right (by decide) hb3)
      · cases h3
    · split at h3 <;> cases h3
theorem zB_s {r : zRs} {f : a_T → Nat → zRs} {x : zEr ⊕ (a_T × Nat)} (h : zB r f = some x) : (∃ e, r = some (.inl e) ∧ x = .inl e) ∨ ∃ T q, r = some (.inr (T, q)) ∧ f T q = some x := by
  match r, h with
  | none, h => exact absurd (show (none : zRs) = some x from h) (fun q => nomatch q)
  | some (.inl e), h => exact Or.inl ⟨e, rfl, (Option.some.inj h).symm⟩
  | some (.inr (T, q)), h => exact Or.inr ⟨T, q, rfl, h⟩
theorem k_is_E {l : List Nat} {p c : Nat} (h : k_is l p c = true) : k_S l p < k_E l p := k_E_lt (fun q => by
  have := (of_decide_eq_true h).1
  rw [q] at this
  cases this)
theorem k_wd_E {l : List Nat} {p : Nat} {w : List Nat} (h : k_wd l p w = true) : k_S l p < k_E l p := k_E_lt (fun q => by
  have := (of_decide_eq_true h).1
  rw [q] at this
  cases this)
theorem k_nm_1 {l : List Nat} {p : Nat} (h : k_nm l p = true) : k_K l p = 1 := by
  unfold k_nm at h
  rw [Bool.and_eq_true, decide_eq_true_eq] at h
  exact h.1
theorem a_dp_var : ∀ v, v < 8 → ∀ u, u < 8 → u ≠ v → a_dp (a_var v) u = false := by decide +kernel
theorem a_per_var {nv v : Nat} (h8 : nv ≤ 8) (hv : v < nv) : a_per nv (a_var v) := fun u hu hn => a_dp_var v (by omega) u hu (by omega)
/-- what is read lies behind p; what a formula says depends on the variables alone -/
theorem zP_ok {A : a_A} (hW : aW A) {l : List Nat} : ∀ n lvl acc o p, p ≤ l.length → (∀ T, acc = some T → a_per (aV A) T) → ∀ T q, zP A l n lvl acc o p = some (.inr (T, q)) → p ≤ q ∧ q ≤ l.length ∧ a_per (aV A) T ∧ (acc = none → p < q) := by
  have h8 : aV A ≤ 8 := hW.2.1.2.2.2
  intro n
  induction n with
  | zero => intro lvl acc o p hp ha T q h; cases h
  | succ n ih =>
    intro lvl acc o p hp ha T q h
    have hS := k_S_ge l p
    have hSE := k_E_ge l p
    have hE := k_E_le hp
    have hEE := k_E_le hE
    have hSE2 := k_E_ge l (k_E l p)
    have hS2 := k_S_ge l (k_E l p)
    cases acc with
    | some T0 =>
      simp only [zP] at h
      split at h
      · rcases zB_s h with ⟨e, -, h2⟩ | ⟨U, q1, h1, h2⟩
        · cases h2
        · obtain ⟨i1, i2, i3, -⟩ := ih _ _ _ _ hE (fun _ q => by cases q) _ _ h1
          have hpT := a_per_op (k_op lvl) (ha T0 rfl) i3
          split at h2
          · cases h2
            exact ⟨by omega, i2, hpT, fun q => by cases q⟩
          · obtain ⟨j1, j2, j3, -⟩ := ih _ _ _ _ i2 (fun T' q => by cases q; exact hpT) _ _ h2
            exact ⟨by omega, j2, j3, fun q => by cases q⟩
      · cases h
        exact ⟨Nat.le_refl _, hp, ha _ rfl, fun q => by cases q⟩
    | none =>
      simp only [zP] at h
      split at h
      · rcases zB_s h with ⟨e, -, h2⟩ | ⟨U, q1, h1, h2⟩
        · cases h2
        · obtain ⟨i1, i2, i3, i4⟩ := ih _ _ _ _ hp (fun _ q => by cases q) _ _ h1
          obtain ⟨j1, j2, j3, -⟩ := ih _ _ _ _ i2 (fun T' q => by cases q; exact i3) _ _ h2
          exact ⟨by omega, j2, j3, fun _ => by have := i4 rfl; omega⟩
      split at h
      · rename_i hs
        have := k_is_E hs
        rcases zB_s h with ⟨e, -, h2⟩ | ⟨U, q1, h1, h2⟩
        · cases h2
        · obtain ⟨i1, i2, i3, i4⟩ := ih _ _ _ _ hE (fun _ q => by cases q) _ _ h1
          cases h2
          exact ⟨by omega, i2, a_per_not i3, fun _ => by omega⟩
      split at h
      · split at h
        · split at h
          · cases h
          · rename_i v hv
            rcases zB_s h with ⟨e, -, h2⟩ | ⟨U, q1, h1, h2⟩
            · cases h2
            · obtain ⟨i1, i2, i3, i4⟩ := ih _ _ _ _ hEE (fun _ q => by cases q) _ _ h1
              cases h2
              have hv2 : v < aV A := by
                unfold k_v k_at at hv
                rcases a_ff_is (fun i => decide (aVN A i = k_W l (k_E l p))) (aV A) with ⟨k, hk, e1, -, -⟩ | ⟨e1, -⟩
                · rw [e1] at hv; cases hv; exact hk
                · rw [e1] at hv; cases hv
              have := i4 rfl
              exact ⟨by omega, i2, a_per_op _ (a_pw_per i3 (by omega) false) (a_pw_per i3 (by omega) true), fun _ => by omega⟩
        · cases h
      split at h
      · split at h
        · split at h
          · cases h
          · rcases zB_s h with ⟨e, -, h2⟩ | ⟨c, q1, h1, h2⟩
            · cases h2
            · obtain ⟨i1, i2, i3, i4⟩ := ih _ _ _ _ hEE (fun _ q => by cases q) _ _ h1
              have := i4 rfl
              split at h2
              · rcases zB_s h2 with ⟨e, -, h3⟩ | ⟨x, q2, h3, h4⟩
                · cases h3
                · obtain ⟨j1, j2, j3, j4⟩ := ih _ _ _ _ (k_E_le i2) (fun _ q => by cases q) _ _ h3
                  have e1 := k_E_ge l q1
                  have e2 := k_S_ge l q1
                  split at h4
                  · rcases zB_s h4 with ⟨e, -, h5⟩ | ⟨y, q3, h5, h6⟩
                    · cases h5
                    · obtain ⟨k1, k2, k3, k4⟩ := ih _ _ _ _ (k_E_le j2) (fun _ q => by cases q) _ _ h5
                      have e3 := k_E_ge l q2
                      have e4 := k_S_ge l q2
                      have e5 := k_E_ge l q3
                      have e6 := k_S_ge l q3
                      split at h6
                      · cases h6
                        exact ⟨by omega, k_E_le k2, a_per_sel i3 j3 k3, fun _ => by omega⟩
                      · cases h6
                  · cases h4
              · cases h2
        · cases h
      split at h
      · rename_i hs
        have := k_is_E hs
        split at h
        · cases h
        · rcases zB_s h with ⟨e, -, h2⟩ | ⟨c, q1, h1, h2⟩
          · cases h2
          · obtain ⟨i1, i2, i3, i4⟩ := ih _ _ _ _ hE (fun _ q => by cases q) _ _ h1
            have e5 := k_E_ge l q1
            have e6 := k_S_ge l q1
            split at h2
            · cases h2
              exact ⟨by omega, k_E_le i2, i3, fun _ => by omega⟩
            · cases h2
      split at h
      · rename_i hK
        have hlt := k_E_lt (l := l) (p := p) (by rw [hK]; decide)
        split at h
        · rename_i v hv
          cases h
          have hv2 : v < aV A := by
            unfold k_v k_at at hv
            rcases a_ff_is (fun i => decide (aVN A i = k_W l p)) (aV A) with ⟨k, hk, e1, -, -⟩ | ⟨e1, -⟩
            · rw [e1] at hv; cases hv; exact hk
            · rw [e1] at hv; cases hv
          exact ⟨by omega, hE, a_per_var h8 hv2, fun _ => by omega⟩
        · split at h
          · rename_i f hf
            cases h
            have hf2 : f < aF A := by
              unfold k_f k_at at hf
              rcases a_ff_is (fun i => decide (aFN A i = k_W l p)) (aF A) with ⟨k, hk, e1, -, -⟩ | ⟨e1, -⟩
              · rw [e1] at hf; cases hf; exact hk
              · rw [e1] at hf; cases hf
            exact ⟨by omega, hE, hW.2.2.2.1 f hf2, fun _ => by omega⟩
          · cases h
      split at h
      · rename_i hb
        have hK := (of_decide_eq_true hb).1
        have hlt := k_E_lt (l := l) (p := p) (by rw [hK]; decide)
        cases h
        refine ⟨by omega, hE, ?_, fun _ => by omega⟩
        unfold z_cst
        split
        · exact a_per_1 _
        · exact a_per_0 _
      · cases h
