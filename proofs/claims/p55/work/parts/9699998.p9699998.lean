abbrev sR : Type := zEr ⊕ (a_A × Nat)
def tVar (A : a_A) (l : List Nat) (p : Nat) (f : Nat → Nat → sR) : sR := if k_nm l p = true then (match k_v A l p with
  | none => .inl (3, k_S l p)
  | some v => f v (k_E l p)) else .inl (1, k_S l p)
def tFun (A : a_A) (l : List Nat) (p : Nat) (f : Nat → Nat → sR) : sR := if k_nm l p = true then (match k_f A l p with
  | none => .inl (3, k_S l p)
  | some v => f v (k_E l p)) else .inl (1, k_S l p)
def tNum (l : List Nat) (p b : Nat) (f : Nat → Nat → sR) : sR := if k_K l p = 2 then (if k_N l p < b then f (k_N l p) (k_E l p) else .inl (2, k_S l p)) else .inl (1, k_S l p)
/-- a name that is new, at p -/
def t_nw (A : a_A) (l : List Nat) (p : Nat) : Bool := (k_v A l p).isNone && (k_f A l p).isNone
/-- a function's definition, behind its word -/
def tNew (A : a_A) (l : List Nat) (p : Nat) : sR := if k_nm l p = true then (if t_nw A l p = true then (match zP A l 9700 0 none 0 (k_E l p) with
  | some (.inr x) => .inr (addF A (k_W l p) x.1, x.2)
  | some (.inl e) => .inl e
  | none => .inl (0, 0)) else .inl (4, k_S l p)) else .inl (1, k_S l p)
def tLet (A : a_A) (l : List Nat) (p : Nat) : sR := if aF A = 12 then .inl (5, k_S l p) else tNew A l (k_E l p)
def t_c1 (A : a_A) (v : Nat) : Nat → Nat → sR := fun n q => .inr (setC A v (Int32.ofNat n), q)
def t_v1 (A : a_A) (l : List Nat) : Nat → Nat → sR := fun v q => tNum l q 100 (t_c1 A v)
def t_c2 (A : a_A) (v : Nat) : Nat → Nat → sR := fun n q => .inr (setP A v (Int32.ofNat n), q)
def t_v2 (A : a_A) (l : List Nat) : Nat → Nat → sR := fun v q => tNum l q 101 (t_c2 A v)
def t_f3 (A : a_A) : Nat → Nat → sR := fun f q => .inr (remF A f, q)
def t_n4 (A : a_A) : Nat → Nat → sR := fun n q => .inr (setD A (a_mv (aD A) n (n + 1)), q)
def t_c5 (A : a_A) (v : Nat) : Nat → Nat → sR := fun n q => .inr (a_shf A v n, q)
def t_v5 (A : a_A) (l : List Nat) : Nat → Nat → sR := fun v q => tNum l q (aV A) (t_c5 A v)
def t_v6 (A : a_A) : Nat → Nat → sR := fun v q => .inr (a_sft A v, q)
/-- a statement of kind k at p, without its semicolon -/
def tC (A : a_A) (l : List Nat) (p k : Nat) : sR := match k with
  | 0 => tLet A l p
  | 1 => tVar A l (k_E l p) (t_v1 A l)
  | 2 => tVar A l (k_E l p) (t_v2 A l)
  | 3 => tFun A l (k_E l p) (t_f3 A)
  | 4 => tNum l (k_E l p) (aV A - 1) (t_n4 A)
  | 5 => tVar A l (k_E l p) (t_v5 A l)
  | 6 => tVar A l (k_E l p) (t_v6 A)
  | _ => .inr (a_sfa A, k_E l p)
theorem tC_0 (A : a_A) (l : List Nat) (p : Nat) : tC A l p 0 = tLet A l p := rfl
theorem tC_1 (A : a_A) (l : List Nat) (p : Nat) : tC A l p 1 = tVar A l (k_E l p) (t_v1 A l) := rfl
theorem tC_2 (A : a_A) (l : List Nat) (p : Nat) : tC A l p 2 = tVar A l (k_E l p) (t_v2 A l) := rfl
theorem tC_3 (A : a_A) (l : List Nat) (p : Nat) : tC A l p 3 = tFun A l (k_E l p) (t_f3 A) := rfl
theorem tC_4 (A : a_A) (l : List Nat) (p : Nat) : tC A l p 4 = tNum l (k_E l p) (aV A - 1) (t_n4 A) := rfl
theorem tC_5 (A : a_A) (l : List Nat) (p : Nat) : tC A l p 5 = tVar A l (k_E l p) (t_v5 A l) := rfl
theorem tC_6 (A : a_A) (l : List Nat) (p : Nat) : tC A l p 6 = tVar A l (k_E l p) (t_v6 A) := rfl
theorem tC_7 (A : a_A) (l : List Nat) (p : Nat) : tC A l p 7 = .inr (a_sfa A, k_E l p) := rfl
/-- with its semicolon -/
def tS (A : a_A) (l : List Nat) (p k : Nat) : sR := match tC A l p k with
  | .inl e => .inl e
  | .inr x => if k_is l x.2 59 = true then .inr (x.1, k_E l x.2) else .inl (1, k_S l x.2)
/-- one statement of a list -/
def tO (sc : Bool) (A : a_A) (l : List Nat) (many p : Nat) : sR := match k_kd l p with
  | none => .inl (1, k_S l p)
  | some k => if sc = false ∧ 3 ≤ k then .inl (1, k_S l p) else if sc = true ∧ many = 30 then .inl (5, k_S l p) else tS A l p k
/-- statements up to the text's end: how many -/
def tL (sc : Bool) (l : List Nat) : Nat → a_A → Nat → Nat → zEr ⊕ (a_A × Nat)
  | 0, _, _, _ => .inl (0, 0)
  | n + 1, A, many, p => if k_K l p = 0 then .inr (A, many) else match tO sc A l many p with
    | .inl e => .inl e
    | .inr x => tL sc l n x.1 (many + 1) x.2
/-- one word stands, the others don't -/
theorem k_str_i : ∀ i, i < 8 → ∀ j, j < 8 → k_str (29 + i) = k_str (29 + j) → i = j := by decide
theorem k_kd_w {l : List Nat} {p k : Nat} (h : k_kd l p = some k) : k < 8 ∧ k_K l p = 1 ∧ k_S l p < k_E l p ∧ ∀ j, j < 8 → k_wd l p (k_str (29 + j)) = decide (j = k) := by
  unfold k_kd at h
  rcases a_ff_is (fun i => k_wd l p (k_str (29 + i))) 8 with ⟨i, hi, e, hw, -⟩ | ⟨e, -⟩
  · rw [e] at h
    cases h
    refine ⟨hi, (of_decide_eq_true hw).1, k_wd_E hw, fun j hj => ?_⟩
    cases hb : k_wd l p (k_str (29 + j)) with
    | true => exact (decide_eq_true (k_str_i _ hj _ hi (k_wd_1 hb hw))).symm
    | false =>
      refine (decide_eq_false (fun z => ?_)).symm
      subst z
      have hw : k_wd l p (k_str (29 + j)) = true := hw
      rw [hb] at hw
      cases hw
  · rw [e] at h
    cases h
/-- the formula's reading comes to an end -/
theorem zP_97 {A : a_A} (hW : aW A) {l : List Nat} (hl : l.length ≤ 600) {p : Nat} (hp : p ≤ l.length) : ∃ r, zP A l 9700 0 none 0 p = some r := by
  have h := zP_tot hW (l := l) 9700 0 none 0 p hp (by decide) (fun _ z => nomatch z) (by show 16 * (l.length - p) + (2 * (5 - 0) + 2) < 9700; omega)
  cases e : zP A l 9700 0 none 0 p with
  | none => exact absurd e h
  | some r => exact ⟨r, rfl⟩
/-- what a statement leaves is well formed; it has been read -/
theorem tC_ok {A : a_A} (hW : aW A) {l : List Nat} (hl : l.length ≤ 600) {p k : Nat} (hp : p ≤ l.length) (hk : k_kd l p = some k) {A' : a_A} {q : Nat} (h : tC A l p k = .inr (A', q)) : aW A' ∧ p < q ∧ q ≤ l.length := by
  obtain ⟨h8, hK, hlt, -⟩ := k_kd_w hk
  have hS := k_S_ge l p
  have hE := k_E_le hp
  have hS2 := k_S_ge l (k_E l p)
  have hSE2 := k_E_ge l (k_E l p)
  have hEE := k_E_le hE
  have hS3 := k_S_ge l (k_E l (k_E l p))
  have hSE3 := k_E_ge l (k_E l (k_E l p))
  have hEEE := k_E_le hEE
  have tv : ∀ {f : Nat → Nat → sR}, tVar A l (k_E l p) f = .inr (A', q) → ∃ v, v < aV A ∧ f v (k_E l (k_E l p)) = .inr (A', q) := fun {f} h => by
    unfold tVar at h
    split at h
    · split at h
      · cases h
      · rename_i v hv
        exact ⟨v, k_at_lt hv, h⟩
    · cases h
  have tn : ∀ {p b : Nat} {f : Nat → Nat → sR}, tNum l p b f = .inr (A', q) → k_N l p < b ∧ f (k_N l p) (k_E l p) = .inr (A', q) := fun {p b f} h => by
    unfold tNum at h
    split at h
    · split at h
      · rename_i h1
        exact ⟨h1, h⟩
      · cases h
    · cases h
  rcases (show k = 0 ∨ k = 1 ∨ k = 2 ∨ k = 3 ∨ k = 4 ∨ k = 5 ∨ k = 6 ∨ k = 7 by omega) with rfl | rfl | rfl | rfl | rfl | rfl | rfl | rfl
  · rw [tC_0] at h
    unfold tLet at h
    split at h
    · cases h
    · rename_i h12
      unfold tNew at h
      split at h
      · rename_i hn
        split at h
        · split at h
          · rename_i x hx
            cases h
            obtain ⟨T, q⟩ := x
            obtain ⟨m1, m2, m3, m4⟩ := zP_okn hW hEE hx
            have hf : aF A ≤ 12 := hW.2.2.1
            exact ⟨addF_W hW (by omega) (k_W_nm hE (k_nm_1 hn)).1 m3, by show p < q; omega, m2⟩
          · cases h
          · cases h
        · cases h
      · cases h
  · rw [tC_1] at h
    obtain ⟨v, hv, h⟩ := tv h
    obtain ⟨hn, h⟩ := tn h
    cases h
    exact ⟨setC_W hW _ _, by omega, hEEE⟩
  · rw [tC_2] at h
    obtain ⟨v, hv, h⟩ := tv h
    obtain ⟨hn, h⟩ := tn h
    cases h
    exact ⟨setP_W hW _ _ (by omega), by omega, hEEE⟩
  · rw [tC_3] at h
    unfold tFun at h
    split at h
    · split at h
      · cases h
      · cases h
        exact ⟨remF_W hW _, by omega, hEE⟩
    · cases h
  · rw [tC_4] at h
    obtain ⟨hn, h⟩ := tn h
    cases h
    exact ⟨setD_W hW (a_mv_O hW.2.1 (by omega) (by omega)), by omega, hEE⟩
  · rw [tC_5] at h
    obtain ⟨v, hv, h⟩ := tv h
    obtain ⟨hn, h⟩ := tn h
    cases h
    exact ⟨a_shf_W hW hv hn, by omega, hEEE⟩
  · rw [tC_6] at h
    obtain ⟨v, hv, h⟩ := tv h
    cases h
    exact ⟨a_sft_W hW hv, by omega, hEE⟩
  · have h : (Sum.inr (a_sfa A, k_E l p) : sR) = .inr (A', q) := h
    cases h
    exact ⟨a_sfs_W hW _ _, by omega, hE⟩
