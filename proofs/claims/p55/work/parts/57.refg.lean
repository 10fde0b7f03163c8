theorem a_nd_app1 {ts : List a_T} (T : a_T) : a_nd (ts ++ [T]) (ts.length + 2) T := Or.inr (Or.inr ⟨by omega, by rw [show ts.length + 2 - 2 = ts.length by omega, List.getElem?_append_right (Nat.le_refl _), Nat.sub_self]; rfl⟩)
theorem a_nodup1 {ts : List a_T} {T : a_T} (h : ts.Nodup) (hn : T ∉ ts) : (ts ++ [T]).Nodup := by
  rw [List.nodup_append]
  refine ⟨h, by simp, fun a ha b hb => ?_⟩
  rw [List.mem_singleton] at hb
  subst hb
  exact fun e => hn (e ▸ ha)
theorem rC.up {G G' : mg_G} {ord : Nat → Nat} {nv : Nat} {ts s : List a_T} {i : Nat} (h : rC G ord nv ts i) (e6 : G'.1 156 (i + 2) = G.1 156 (i + 2)) (e7 : G'.1 157 (i + 2) = G.1 157 (i + 2)) (e8 : G'.1 158 (i + 2) = G.1 158 (i + 2)) : rC G' ord nv (ts ++ s) i := by
  obtain ⟨T, kl, kh, h1, h2, h3, h4, h5, h6, h7⟩ := h
  exact ⟨T, kl, kh, by rw [List.getElem?_append_left (List.getElem?_eq_some_iff.mp h1).1]; exact h1, h2, e6.trans h3, e7.trans h4, a_nd_app h5, e8.trans h6, a_nd_app h7⟩
