/-! REFERENCE: visit -/
theorem a_nd_app1 {ts : List a_T} (T : a_T) : a_nd (ts ++ [T]) (ts.length + 2) T := Or.inr (Or.inr ⟨by omega, by rw [show ts.length + 2 - 2 = ts.length by omega, List.getElem?_append_right (Nat.le_refl _), Nat.sub_self]; rfl⟩)
theorem a_nodup1 {ts : List a_T} {T : a_T} (h : ts.Nodup) (hn : T ∉ ts) : (ts ++ [T]).Nodup := by
  rw [List.nodup_append]
  refine ⟨h, by simp, fun a ha b hb => ?_⟩
  rw [List.mem_singleton] at hb
  subst hb
  exact fun e => hn (e ▸ ha)
theorem rC.up {G G' : mg_G} {ord : Nat → Nat} {nv : Nat} {ts s : List a_T} {i : Nat} (h : rC G ord nv ts i) (e6 : G'.1 156 (i + 2) = G.1 156 (i + 2)) (e7 : G'.1 157 (i + 2) = G.1 157 (i + 2)) (e8 : G'.1 158 (i + 2) = G.1 158 (i + 2)) : rC G' ord nv (ts ++ s) i := by
  obtain ⟨T, kl, kh, h1, h2, h3, h4, h5, h6, h7⟩ := h
  exact ⟨T, kl, kh, by rw [List.getElem?_append_left (List.getElem?_eq_some_iff.mp h1).1]; exact h1, h2, e6.trans h3, e7.trans h4, a_nd_app h5, e8.trans h6, a_nd_app h7⟩
/-- the memory behind a new node -/
def rG1 (G : mg_G) (q N : Nat) (T : a_T) : mg_G := mg_sJ (mg_sJ (mg_sJ (mg_sJ (mg_sF (mg_sI G 160 q (Int32.ofNat N)) 148 16 (.int (Int32.ofNat N + Int32.ofInt 1))) 155 (4 * N) T.1) 155 (4 * N + 1) T.2.1) 155 (4 * N + 2) T.2.2.1) 155 (4 * N + 3) T.2.2.2
theorem rG1_J (G : mg_G) (q N : Nat) (T : a_T) (i : Nat) : (rG1 G q N T).2.1 155 i = if i = 4 * N + 3 then T.2.2.2 else if i = 4 * N + 2 then T.2.2.1 else if i = 4 * N + 1 then T.2.1 else if i = 4 * N then T.1 else G.2.1 155 i := by
  show mg_u2 (mg_u2 (mg_u2 (mg_u2 G.2.1 155 (4 * N) T.1) 155 (4 * N + 1) T.2.1) 155 (4 * N + 2) T.2.2.1) 155 (4 * N + 3) T.2.2.2 155 i = _
  rw [mg_u2_at, mg_u2_at, mg_u2_at, mg_u2_at]
  simp only [true_and]
theorem rG1_fr (G : mg_G) (q N n : Nat) (T : a_T) : rFr n G (rG1 G q N T) := by
  refine ⟨fun b _ _ _ b4 => mg_u2_ne _ _ _ b4, fun b i hb hi => congrFun (mg_u2_ne _ _ _ hb) i, fun b hb => ?_, rfl, rfl, fun b k hb => ?_⟩
  · show mg_u2 (mg_u2 (mg_u2 (mg_u2 G.2.1 155 (4 * N) T.1) 155 (4 * N + 1) T.2.1) 155 (4 * N + 2) T.2.2.1) 155 (4 * N + 3) T.2.2.2 b = _
    rw [mg_u2_ne _ _ _ hb, mg_u2_ne _ _ _ hb, mg_u2_ne _ _ _ hb, mg_u2_ne _ _ _ hb]
  · show mg_u2 G.2.2.2.2 148 16 (.int (Int32.ofNat N + Int32.ofInt 1)) b k = _
    rw [mg_u2_at, if_neg hb]
theorem rG1_N {G : mg_G} {ts : List a_T} {sl : Nat → Nat} {T : a_T} {e0 : Nat} (hT : ∀ i T, ts[i]? = some T → ((G.2.1 155 (4 * (i + 2)), G.2.1 155 (4 * (i + 2) + 1), G.2.1 155 (4 * (i + 2) + 2), G.2.1 155 (4 * (i + 2) + 3)) : a_T) = T) (hS : ∀ q, q < 4096 → G.1 160 q = Int32.ofNat (sl q)) (hH : a_hs 4096 2 a_slN ts sl) (he : e0 < 4096) (h0 : sl ((a_slN T + e0) % 4096) = 0) (hne : ∀ e2, e2 < e0 → sl ((a_slN T + e2) % 4096) ≠ 0) : rN (rG1 G ((a_slN T + e0) % 4096) (ts.length + 2) T) (ts ++ [T]) := by
  refine ⟨?_, fun i U hi => ?_, _, fun q hq => ?_, a_hs_add hH he h0 hne (by decide)⟩
  · show mg_u2 G.2.2.2.2 148 16 (.int (Int32.ofNat (ts.length + 2) + Int32.ofInt 1)) 148 16 = _
    rw [mg_u2_at, if_pos ⟨rfl, rfl⟩, mg_inc, List.length_append, List.length_singleton]
  · rw [rG1_J, rG1_J, rG1_J, rG1_J]
    by_cases hl : i < ts.length
    · rw [List.getElem?_append_left hl] at hi
      rw [if_neg (by omega), if_neg (by omega), if_neg (by omega), if_neg (by omega), if_neg (by omega), if_neg (by omega), if_neg (by omega), if_neg (by omega), if_neg (by omega), if_neg (by omega), if_neg (by omega), if_neg (by omega), if_neg (by omega), if_neg (by omega), if_neg (by omega), if_neg (by omega)]
      exact hT i U hi
    · have hi2 := (List.getElem?_eq_some_iff.mp hi).1
      rw [List.length_append, List.length_singleton] at hi2
      have ei : i = ts.length := by omega
      subst ei
      rw [List.getElem?_append_right (Nat.le_refl _), Nat.sub_self] at hi
      cases Option.some.inj hi
      rw [if_neg (by omega), if_neg (by omega), if_neg (by omega), if_pos rfl, if_neg (by omega), if_neg (by omega), if_pos rfl, if_neg (by omega), if_pos rfl, if_pos rfl]
  · show mg_u2 G.1 160 ((a_slN T + e0) % 4096) (Int32.ofNat (ts.length + 2)) 160 q = _
    rw [mg_u2_at]
    by_cases e : q = (a_slN T + e0) % 4096
    · rw [if_pos ⟨rfl, e⟩, if_pos e, Nat.add_comm]
    · rw [if_neg (fun h => e h.2), if_neg e]
      exact hS q hq
