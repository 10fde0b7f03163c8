/-! THE GRAPH: what its roots and its nodes tell; a function less; a variable moved -/
theorem th_nd {ts : List a_T} {k : Nat} {T U : a_T} (h : a_nd ts k T) (h2 : a_nd ts k U) : T = U := by
  rcases h with ⟨e, h⟩ | ⟨e, h⟩ | ⟨e, h⟩ <;> rcases h2 with ⟨e2, h2⟩ | ⟨e2, h2⟩ | ⟨e2, h2⟩ <;> first | omega | exact h.trans h2.symm | exact Option.some.inj (h.symm.trans h2)
theorem th_cl {G : mg_G} {S : a_S} (hT : cT G S) : aCl (aD (sA S)) (aV (sA S)) (aN (sA S)) ∧ ∀ f, f < aF (sA S) → a_nd (aN (sA S)) (aR (sA S) f) (aT (sA S) f) := by
  obtain ⟨N, o, k, G', -, -, -, -, h, -⟩ := c165 (scr := (0, fun _ => 0)) (t := []) 0 hT (true, 0, 0)
  exact ⟨h.2.2.1, fun f hf => (h.2.2.2.1 f hf).2⟩
theorem th_rt {G : mg_G} {S : a_S} (hT : cT G S) {f g : Nat} (hf : f < aF (sA S)) (hg : g < aF (sA S)) : aR (sA S) f = aR (sA S) g ↔ aT (sA S) f = aT (sA S) g := by
  obtain ⟨-, h⟩ := th_cl hT
  refine ⟨fun e => ?_, fun e => by unfold aR; rw [e]⟩
  have h1 := h f hf
  rw [e] at h1
  exact th_nd h1 (h g hg)
theorem th_gW {A : a_A} (hW : aW A) (hc : aCl (aD A) (aV A) (aN A)) : gW (aV A) (aG A) := a_gr_W hW.o8 hW.2.1.2.2.2 (a_all_nd _ _ _ _) (a_all_nl _ _ _ _) hW.N hc
theorem th_st {A : a_A} (hW : aW A) (hc : aCl (aD A) (aV A) (aN A)) {k : Nat} {T : a_T} (h : a_nd (aN A) k T) (h2 : 2 ≤ k) : k < gN (aG A) ∧ gL (aG A) k < aV A ∧ gO (aG A) k < gN (aG A) ∧ gH (aG A) k < gN (aG A) ∧ gL (aG A) k < gL (aG A) (gO (aG A) k) ∧ gL (aG A) k < gL (aG A) (gH (aG A) k) ∧ a_nd (aN A) (gO (aG A) k) (a_cf T (aD A (gL (aG A) k)) false) ∧ a_nd (aN A) (gH (aG A) k) (a_cf T (aD A (gL (aG A) k)) true) := by
  have hk : k < gN (aG A) := a_nd_lt h
  have hT : (aN A)[k - 2]? = some T := by
    rcases h with ⟨e, -⟩ | ⟨e, -⟩ | ⟨-, e⟩
    · omega
    · omega
    · exact e
  obtain ⟨U, kl, kh, g1, g2, g3, g4⟩ := hc (k - 2) (List.getElem?_eq_some_iff.mp hT).1
  cases Option.some.inj (hT.symm.trans g1)
  obtain ⟨q1, q2, q3⟩ := a_gr_at (ord := aD A) (nv := aV A) (a_all_nd _ _ _ _) (a_all_nl _ _ _ _) h2 hT
  obtain ⟨w1, w2, w3, w4, w5⟩ := (th_gW hW hc).2.2.2.2 k h2 hk
  refine ⟨hk, w1, w2, w3, w4, w5, ?_, ?_⟩
  · rw [show gO (aG A) k = kl from q2 kl g3, show gL (aG A) k = _ from q1]
    exact g3
  · rw [show gH (aG A) k = kh from q3 kh g4, show gL (aG A) k = _ from q1]
    exact g4
theorem th_ev (T : a_T) {v : Nat} (hv : v < 8) {x : Nat} (hx : x < 256) : a_atI T x = a_atI (a_cf T v (x.testBit v)) x := by
  unfold a_atI
  rw [a_cf_at T v hv _ x hx, (a_sb_lt v hv x hx).2.2]
/-! a function less -/
theorem th_vis {ord : Nat → Nat} {nv : Nat} {C : List a_T} (hc : aCl ord nv C) : ∀ n T ts, (T = a_zero ∨ T = a_one ∨ T ∈ C) → (∀ U, U ∈ ts → U ∈ C) → ∀ U, U ∈ a_vis ord nv n T ts → U ∈ C
  | 0, T, ts, _, h2, U, hU => h2 U hU
  | n + 1, T, ts, h1, h2, U, hU => by
    unfold a_vis at hU
    split at hU
    · exact h2 U hU
    · rename_i h3
      have hm : T ∈ C := by
        rcases h1 with h1 | h1 | h1
        · exact absurd (Or.inl h1) h3
        · exact absurd (Or.inr (Or.inl h1)) h3
        · exact h1
      obtain ⟨i, hi, e⟩ := List.getElem_of_mem hm
      obtain ⟨V, kl, kh, g1, g2, g3, g4⟩ := hc i hi
      have e2 : V = T := by
        rw [List.getElem?_eq_getElem hi, e] at g1
        exact (Option.some.inj g1).symm
      subst e2
      have kid : ∀ {k : Nat} {W : a_T}, a_nd C k W → W = a_zero ∨ W = a_one ∨ W ∈ C := fun h => by
        rcases h with ⟨-, h⟩ | ⟨-, h⟩ | ⟨-, h⟩
        · exact Or.inl h
        · exact Or.inr (Or.inl h)
        · exact Or.inr (Or.inr (List.mem_of_getElem? h))
      refine th_vis hc n _ _ (kid g4) (th_vis hc n _ _ (kid g3) (fun W hW => ?_)) U hU
      rcases List.mem_append.mp hW with hW | hW
      · exact h2 W hW
      · rw [List.mem_singleton.mp hW]
        exact hm
theorem th_all {ord : Nat → Nat} {nv : Nat} {C : List a_T} (hc : aCl ord nv C) {tb : Nat → a_T} : ∀ f, (∀ g, g < f → tb g = a_zero ∨ tb g = a_one ∨ tb g ∈ C) → ∀ U, U ∈ a_all ord nv tb f → U ∈ C
  | 0, _, U, hU => by cases hU
  | f + 1, h, U, hU => th_vis hc _ _ _ (h f (Nat.lt_succ_self f)) (th_all hc f (fun g hg => h g (Nat.lt_succ_of_lt hg))) U hU
theorem th_len : ∀ {l m : List a_T}, l.Nodup → (∀ x, x ∈ l → x ∈ m) → l.length ≤ m.length
  | [], _, _, _ => Nat.zero_le _
  | x :: l, m, h, hm => by
    have hx : x ∈ m := hm x List.mem_cons_self
    have h1 := List.nodup_cons.mp h
    have h2 := th_len (l := l) (m := m.erase x) h1.2 (fun y hy => (List.mem_erase_of_ne (show y ≠ x from fun e => h1.1 (e ▸ hy))).mpr (hm y (List.mem_cons_of_mem _ hy)))
    rw [List.length_erase_of_mem hx] at h2
    have h3 := List.length_pos_of_mem hx
    simp only [List.length_cons]
    omega
theorem th_dr {G : mg_G} {S : a_S} (hT : cT G S) {f : Nat} (hf : f < aF (sA S)) : (aN (remF (sA S) f)).length ≤ (aN (sA S)).length := by
  obtain ⟨hc, hn⟩ := th_cl hT
  have one : ∀ j, j < aF (sA S) → aT (sA S) j = a_zero ∨ aT (sA S) j = a_one ∨ aT (sA S) j ∈ aN (sA S) := fun j hj => by
    rcases hn j hj with ⟨-, h⟩ | ⟨-, h⟩ | ⟨-, h⟩
    · exact Or.inl h
    · exact Or.inr (Or.inl h)
    · exact Or.inr (Or.inr (List.mem_of_getElem? h))
  refine th_len (a_all_nd _ _ _ _) (th_all hc (aF (sA S) - 1) (fun g hg => ?_))
  show (if f ≤ g then aT (sA S) (g + 1) else aT (sA S) g) = a_zero ∨ (if f ≤ g then aT (sA S) (g + 1) else aT (sA S) g) = a_one ∨ (if f ≤ g then aT (sA S) (g + 1) else aT (sA S) g) ∈ aN (sA S)
  split
  · exact one _ (by omega)
  · exact one _ (by omega)
/-! a variable moved -/
theorem th_mv {A : a_A} (hW : aW A) {v l : Nat} (hv : v < aV A) (hl : l < aV A) : a_lvl (a_shf A v l) v = l := by
  have hW2 := a_shf_W hW hv hl
  obtain ⟨h1, h2, -⟩ := a_lvl_at hW2 (show v < aV (a_shf A v l) from hv)
  have h3 : aD (a_shf A v l) l = v := by
    show aD A (a_sg (a_lvl A v) l l) = v
    have e : a_sg (a_lvl A v) l l = a_lvl A v := by
      unfold a_sg
      rw [if_pos rfl]
    rw [e]
    exact (a_lvl_at hW hv).2.1
  exact hW2.2.1.2.2.1 _ _ h1 hl (h2.trans h3.symm)
