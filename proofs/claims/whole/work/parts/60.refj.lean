/-! REFERENCE: visitAll -/
/-- the tables of the inner nodes of the first f functions -/
def a_all (ord : Nat → Nat) (nv : Nat) (tb : Nat → a_T) : Nat → List a_T
  | 0 => []
  | f + 1 => a_vis ord nv (nv + 1) (tb f) (a_all ord nv tb f)
theorem a_all_nd (ord : Nat → Nat) (nv : Nat) (tb : Nat → a_T) : ∀ f, (a_all ord nv tb f).Nodup
  | 0 => List.nodup_nil
  | f + 1 => a_vis_nd ord nv _ _ _ (a_all_nd ord nv tb f)
theorem a_all_le (ord : Nat → Nat) (nv : Nat) (tb : Nat → a_T) (f : Nat) : ∀ m, (a_all ord nv tb f).length ≤ (a_all ord nv tb (f + m)).length
  | 0 => Nat.le_refl _
  | m + 1 => by
    have h := a_all_le ord nv tb f m
    obtain ⟨s, hs⟩ := a_vis_pre ord nv (nv + 1) (tb (f + m)) (a_all ord nv tb (f + m))
    show _ ≤ (a_vis ord nv (nv + 1) (tb (f + m)) (a_all ord nv tb (f + m))).length
    rw [hs, List.length_append]
    omega
def rW (G G' : mg_G) : Prop := (∀ b, b ≠ 156 → b ≠ 157 → b ≠ 158 → b ≠ 159 → b ≠ 160 → G'.1 b = G.1 b) ∧ (∀ b, b ≠ 155 → G'.2.1 b = G.2.1 b) ∧ G'.2.2.1 = G.2.2.1 ∧ G'.2.2.2.1 = G.2.2.2.1 ∧ (∀ b k, ¬ (b = 148 ∧ k = 16) → G'.2.2.2.2 b k = G.2.2.2.2 b k)
theorem rW.fr {n : Nat} {G G' G'' : mg_G} (h : rW G G') (h2 : rFr n G' G'') : rW G G'' :=
  ⟨fun b b1 b2 b3 b4 b5 => (h2.1 b b1 b2 b3 b5).trans (h.1 b b1 b2 b3 b4 b5), fun b hb => (h2.2.2.1 b hb).trans (h.2.1 b hb), h2.2.2.2.1.trans h.2.2.1, h2.2.2.2.2.1.trans h.2.2.2.1, fun b k hb => (h2.2.2.2.2.2 b k hb).trans (h.2.2.2.2 b k hb)⟩
theorem rW.rf (G : mg_G) : rW G G := ⟨fun _ _ _ _ _ _ => rfl, fun _ _ => rfl, rfl, rfl, fun _ _ _ => rfl⟩
theorem rW.i {G G' : mg_G} (h : rW G G') (f : Nat) (x : Int32) : rW G (mg_sI G' 159 f x) :=
  ⟨fun b b1 b2 b3 b4 b5 => (show mg_u2 G'.1 159 f x b = G.1 b from (mg_u2_ne _ _ _ b4).trans (h.1 b b1 b2 b3 b4 b5)), h.2⟩
theorem rW.tb {G G' : mg_G} (h : rW G G') (f : Nat) : a_tb G' f = a_tb G f := by
  unfold a_tb
  rw [h.2.1 150 (by decide)]
/-- what is there behind the first f functions -/
def rAll (G : mg_G) (ord : Nat → Nat) (nv f : Nat) (G' : mg_G) : Prop := rW G G' ∧ rN G' (a_all ord nv (a_tb G) f) ∧ (∀ g, g < f → ∃ r, G'.1 159 g = Int32.ofNat r ∧ a_nd (a_all ord nv (a_tb G) f) r (a_tb G g)) ∧ (∀ i, i < (a_all ord nv (a_tb G) f).length → rC G' ord nv (a_all ord nv (a_tb G) f) i) ∧ (∀ b, b = 156 ∨ b = 157 ∨ b = 158 → G'.1 b 0 = Int32.ofInt (-1) ∧ G'.1 b 1 = Int32.ofInt (-1))
theorem rAll_0 (G : mg_G) (ord : Nat → Nat) (nv : Nat) : rAll G ord nv 0 (rZ G) :=
  ⟨(rW.rf G).fr (rZ_fr G), rZ_N G, fun g hg => absurd hg (Nat.not_lt_zero _), fun i hi => absurd hi (Nat.not_lt_zero _), fun b hb => ⟨by rw [rZ_I, if_pos ⟨hb, by decide⟩], by rw [rZ_I, if_pos ⟨hb, by decide⟩]⟩⟩
theorem rAll_s {G G' G2 : mg_G} {ord : Nat → Nat} {nv f r : Nat} (h : rAll G ord nv f G') (hnd : a_nd (a_vis ord nv (nv + 1) (a_tb G f) (a_all ord nv (a_tb G) f)) r (a_tb G f)) (hN : rN G2 (a_vis ord nv (nv + 1) (a_tb G f) (a_all ord nv (a_tb G) f))) (hF : rFr ((a_all ord nv (a_tb G) f).length + 2) G' G2) (hC : ∀ i, (a_all ord nv (a_tb G) f).length ≤ i → i < (a_vis ord nv (nv + 1) (a_tb G f) (a_all ord nv (a_tb G) f)).length → rC G2 ord nv (a_vis ord nv (nv + 1) (a_tb G f) (a_all ord nv (a_tb G) f)) i) : rAll G ord nv (f + 1) (mg_sI G2 159 f (Int32.ofNat r)) := by
  obtain ⟨h1, h2, h3, h4, h5⟩ := h
  show rW G _ ∧ rN _ (a_vis ord nv (nv + 1) (a_tb G f) (a_all ord nv (a_tb G) f)) ∧ _
  have ne : ∀ b i, b ≠ 159 → (mg_sI G2 159 f (Int32.ofNat r)).1 b i = G2.1 b i := fun b i hb => congrFun (mg_u2_ne _ _ _ hb) i
  obtain ⟨s, hs⟩ := a_vis_pre ord nv (nv + 1) (a_tb G f) (a_all ord nv (a_tb G) f)
  refine ⟨(h1.fr hF).i f _, ?_, fun g hg => ?_, fun i hi => ?_, fun b hb => ?_⟩
  · obtain ⟨g1, g2, sl, g3, g4⟩ := hN
    exact ⟨g1, g2, sl, fun q hq => (ne 160 q (by decide)).trans (g3 q hq), g4⟩
  · rcases Nat.lt_or_eq_of_le (Nat.le_of_lt_succ hg) with h9 | rfl
    · obtain ⟨r9, e1, e2⟩ := h3 g h9
      refine ⟨r9, ?_, ?_⟩
      · rw [mg_sI_ne _ _ _ _ (by omega)]
        exact (congrFun (hF.1 159 (by decide) (by decide) (by decide) (by decide)) g).trans e1
      · show a_nd (a_vis ord nv (nv + 1) (a_tb G f) (a_all ord nv (a_tb G) f)) r9 _
        rw [hs]
        exact a_nd_app e2
    · exact ⟨r, mg_sI_eq _ _ _ _, hnd⟩
  · have hi : i < (a_vis ord nv (nv + 1) (a_tb G f) (a_all ord nv (a_tb G) f)).length := hi
    show rC _ ord nv (a_vis ord nv (nv + 1) (a_tb G f) (a_all ord nv (a_tb G) f)) i
    by_cases hl : i < (a_all ord nv (a_tb G) f).length
    · have h9 := h4 i hl
      rw [hs]
      exact h9.up ((ne 156 _ (by decide)).trans (hF.2.1 156 _ (by decide) (by omega))) ((ne 157 _ (by decide)).trans (hF.2.1 157 _ (by decide) (by omega))) ((ne 158 _ (by decide)).trans (hF.2.1 158 _ (by decide) (by omega)))
    · have h9 := (hC i (by omega) hi).up (G' := mg_sI G2 159 f (Int32.ofNat r)) (s := []) (ne 156 _ (by decide)) (ne 157 _ (by decide)) (ne 158 _ (by decide))
      rw [List.append_nil] at h9
      exact h9
  · have hb9 : b ≠ 159 ∧ b ≠ 160 := by omega
    exact ⟨(ne b 0 hb9.1).trans ((hF.2.1 b 0 hb9.2 (by omega)).trans (h5 b hb).1), (ne b 1 hb9.1).trans ((hF.2.1 b 1 hb9.2 (by omega)).trans (h5 b hb).2)⟩
