/-! REFERENCE: visitAll, build -/
def rBQ (G : mg_G) (ord : Nat → Nat) (nv nf : Nat) : mg_Q := fun o k G2 => k = 0 ∧ o = .inl (some (.int (Int32.ofNat (a_all ord nv (a_tb G) nf).length))) ∧ rAll G ord nv nf G2
section RM
variable {scr : Nat × (Nat → Int32)} {t : List mg_S}
theorem r200_l (d : Nat) {G : mg_G} {ord : Nat → Nat} {nv nf : Nat} (hH : rH G ord nv) (hf : G.1 149 1 = Int32.ofNat nf) (h12 : nf ≤ 12) (hsup : ∀ f, f < nf → ∀ v, v < 8 → a_dp (a_tb G f) v = true → ∃ j, j < nv ∧ ord j = v) (hlen : (a_all ord nv (a_tb G) nf).length ≤ 998) :
    ∀ (m f : Nat), f + m = nf → ∀ G', rAll G ord nv f G' → mg_wp (mg_KM scr t) mc_200 (d + nv + 5) 6 [some (.ref 148), some (.int (Int32.ofNat f))] [] G' (rBQ G ord nv nf) := by
  intro m
  induction m with
  | zero =>
    intro f h G' hA
    have ef : f = nf := by omega
    subst ef
    have hf' : G'.1 149 1 = Int32.ofNat f := (congrFun (hA.1.1 149 (by decide) (by decide) (by decide) (by decide) (by decide)) 1).trans hf
    refine mg_go [6] 60 6 ms_200 ?_
    refine ⟨Or.inr ⟨_, rfl⟩, mg_cv (r179n (d + nv + 4) hf') (by omega) ⟨fun _ => ?_, fun h2 => absurd h2 (Int32.not_lt.mpr (Int32.le_refl _))⟩⟩
    refine ⟨_, mg_Fe hA.2.1.1 rfl rfl, Or.inl rfl, rfl, ?_, hA⟩
    show (Sum.inl (some (Value.int (Int32.ofNat ((a_all ord nv (a_tb G) f).length + 2) - Int32.ofNat 2))) : Option Value ⊕ String) = _
    rw [mg_subN (by omega), Nat.add_sub_cancel]
  | succ m ih =>
    intro f h G' hA
    have hf' : G'.1 149 1 = Int32.ofNat nf := (congrFun (hA.1.1 149 (by decide) (by decide) (by decide) (by decide) (by decide)) 1).trans hf
    have hH' : rH G' ord nv := ⟨fun v hv => by rw [hA.1.2.1 154 (by decide)]; exact hH.1 v hv, fun j hj => by rw [hA.1.1 161 (by decide) (by decide) (by decide) (by decide) (by decide)]; exact hH.2.1 j hj, hH.2.2⟩
    have htb := hA.1.tb f
    have hl1 := a_all_le ord nv (a_tb G) (f + 1) m
    rw [show f + 1 + m = nf by omega] at hl1
    have hl2 : (a_vis ord nv (nv + 1) (a_tb G' f) (a_all ord nv (a_tb G) f)).length ≤ 998 := by
      rw [htb]
      exact Nat.le_trans hl1 hlen
    have hv := r198 (scr := scr) (t := t) ord nv (nv + 1) d (a_tb G' f) 0 G' (a_all ord nv (a_tb G) f) hH' hA.2.1 (a_all_nd ord nv (a_tb G) f) (by omega) (Nat.zero_le _) (fun j hj => absurd hj (Nat.not_lt_zero _)) (by rw [htb]; exact hsup f (by omega)) hl2
    refine mg_go [6] 60 6 ms_200 ?_
    refine ⟨Or.inr ⟨_, rfl⟩, mg_cv (r179n (d + nv + 4) hf') (by omega) ⟨fun h2 => ?_, fun _ => ?_⟩⟩
    · have := (mg_leN (by omega) (by omega)).mp h2
      omega
    refine ⟨_, mg_Fs rfl rfl, ?_⟩
    refine ⟨Or.inr ⟨_, rfl⟩, mg_cv (r189 (d + nv + 4) f 0 (by omega) G') (by omega) ?_⟩
    refine ⟨Or.inr ⟨_, rfl⟩, mg_cv (r189 (d + nv + 4) f 1 (by omega) G') (by omega) ?_⟩
    refine ⟨Or.inr ⟨_, rfl⟩, mg_cv (r189 (d + nv + 4) f 2 (by omega) G') (by omega) ?_⟩
    refine ⟨Or.inr ⟨_, rfl⟩, mg_cv (r189 (d + nv + 4) f 3 (by omega) G') (by omega) ?_⟩
    refine ⟨Or.inr ⟨_, rfl⟩, mg_m_mono hv (by omega) ?_⟩
    rintro o k G2 ⟨rfl, r, rfl, hnd, hN, hF, hC⟩
    rw [htb] at hnd hN hC
    refine ⟨12, f, rfl, mg_ixN (by omega), by omega, ?_⟩
    have := ih (f + 1) (by omega) _ (rAll_s hA hnd hN hF hC)
    rw [← mg_inc f] at this
    exact this
theorem r200 (d : Nat) {G : mg_G} {ord : Nat → Nat} {nv nf : Nat} (hH : rH G ord nv) (hf : G.1 149 1 = Int32.ofNat nf) (h12 : nf ≤ 12) (hsup : ∀ f, f < nf → ∀ v, v < 8 → a_dp (a_tb G f) v = true → ∃ j, j < nv ∧ ord j = v) (hlen : (a_all ord nv (a_tb G) nf).length ≤ 998) : mg_m (mg_KM scr t) (d + nv + 6) 200 [.ref 148] G (rBQ G ord nv nf) := by
  refine mg_me [6] 10 my_200 ms_200 (Nat.le_of_ble_eq_true rfl) ?_
  refine ⟨Or.inr ⟨_, rfl⟩, mg_cn (r194 (d + nv + 4) G) (by omega) ?_⟩
  exact r200_l d hH hf h12 hsup hlen nf 0 (by omega) _ (rAll_0 G ord nv)
end RM
