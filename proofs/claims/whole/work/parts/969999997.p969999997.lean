/-! PAIRS: the reference's call; the class's slots -/
def q293 (A : a_A) (f g : Int32) : qR := qF A f fun f => qF A g fun g => (0, Int32.ofNat (g_pr (aG A) (aV A) (aR A f, aR A g)))
section RM
variable {scr : Nat × (Nat → Int32)} {t : List mg_S} {G : mg_G} {A : a_A}
theorem r293 (d : Nat) (hI : rI G A) (f g : Int32) : mg_m (mg_KM scr t) (d + 20) 293 [.ref 148, .int f, .int g] G (rQ G (q293 A f g)) := by
  have h8 := hI.v8
  have h12 := hI.f12
  unfold q293
  cases hf : vi f (aF A) with
  | none =>
    rw [qF_x hf]
    refine mg_me [] 120 my_293 ms_293 (Nat.le_of_ble_eq_true rfl) ?_
    repeat (first | refine ⟨_, mg_Fs rfl rfl, ?_⟩ | refine ⟨_, mg_Fd rfl rfl, ?_⟩ | refine ⟨Or.inl rfl, ?_⟩ | refine ⟨Or.inr ⟨_, rfl⟩, ?_⟩ | refine ⟨fun _ => ?_, fun h => absurd h (by decide)⟩ | refine ⟨fun h => absurd h (by decide), fun _ => ?_⟩)
    refine mg_cv (r181x d hI hf) (by omega) ?_
    repeat (first | refine ⟨_, mg_Fs rfl rfl, ?_⟩ | refine ⟨_, mg_Fd rfl rfl, ?_⟩ | refine ⟨Or.inl rfl, ?_⟩ | refine ⟨Or.inr ⟨_, rfl⟩, ?_⟩ | refine ⟨fun _ => ?_, fun h => absurd h (by decide)⟩ | refine ⟨fun h => absurd h (by decide), fun _ => ?_⟩)
    refine mg_cv (r176_1 d _ _) (by omega) ?_
    repeat (first | refine ⟨_, mg_Fs rfl rfl, ?_⟩ | refine ⟨_, mg_Fd rfl rfl, ?_⟩ | refine ⟨Or.inl rfl, ?_⟩ | refine ⟨Or.inr ⟨_, rfl⟩, ?_⟩ | refine ⟨fun _ => ?_, fun h => absurd h (by decide)⟩ | refine ⟨fun h => absurd h (by decide), fun _ => ?_⟩)
    exact ⟨rfl, rfl, rX.rf _⟩
  | some i =>
    obtain ⟨rfl, hi⟩ := vi_s hf
    rw [qF_y hf]
    cases hg : vi g (aF A) with
    | none =>
      rw [qF_x hg]
      refine mg_me [] 120 my_293 ms_293 (Nat.le_of_ble_eq_true rfl) ?_
      repeat (first | refine ⟨_, mg_Fs rfl rfl, ?_⟩ | refine ⟨_, mg_Fd rfl rfl, ?_⟩ | refine ⟨Or.inl rfl, ?_⟩ | refine ⟨Or.inr ⟨_, rfl⟩, ?_⟩ | refine ⟨fun _ => ?_, fun h => absurd h (by decide)⟩ | refine ⟨fun h => absurd h (by decide), fun _ => ?_⟩)
      refine mg_cv (r181y d hI hf) (by omega) ?_
      repeat (first | refine ⟨_, mg_Fs rfl rfl, ?_⟩ | refine ⟨_, mg_Fd rfl rfl, ?_⟩ | refine ⟨Or.inl rfl, ?_⟩ | refine ⟨Or.inr ⟨_, rfl⟩, ?_⟩ | refine ⟨fun _ => ?_, fun h => absurd h (by decide)⟩ | refine ⟨fun h => absurd h (by decide), fun _ => ?_⟩)
      refine mg_cv (r181x d hI hg) (by omega) ?_
      repeat (first | refine ⟨_, mg_Fs rfl rfl, ?_⟩ | refine ⟨_, mg_Fd rfl rfl, ?_⟩ | refine ⟨Or.inl rfl, ?_⟩ | refine ⟨Or.inr ⟨_, rfl⟩, ?_⟩ | refine ⟨fun _ => ?_, fun h => absurd h (by decide)⟩ | refine ⟨fun h => absurd h (by decide), fun _ => ?_⟩)
      refine mg_cv (r176_1 d _ _) (by omega) ?_
      repeat (first | refine ⟨_, mg_Fs rfl rfl, ?_⟩ | refine ⟨_, mg_Fd rfl rfl, ?_⟩ | refine ⟨Or.inl rfl, ?_⟩ | refine ⟨Or.inr ⟨_, rfl⟩, ?_⟩ | refine ⟨fun _ => ?_, fun h => absurd h (by decide)⟩ | refine ⟨fun h => absurd h (by decide), fun _ => ?_⟩)
      exact ⟨rfl, rfl, rX.rf _⟩
    | some j =>
      obtain ⟨rfl, hj⟩ := vi_s hg
      rw [qF_y hg]
      have hI3 : rI (mg_sF G 148 10 (.int 0)) A := hI
      have k201 : mg_m (mg_KM scr t) (d + 16) 201 [.ref 148] (mg_sF G 148 10 (.int 0)) (fun o q G' => q = 0 ∧ o = .inl (some (.int (Int32.ofNat (aN A).length))) ∧ rB (mg_sF G 148 10 (.int 0)) A G') := mg_m_mono (r201A d hI3) (by omega) (fun _ _ _ w => w)
      refine mg_me [] 120 my_293 ms_293 (Nat.le_of_ble_eq_true rfl) ?_
      repeat (first | refine ⟨_, mg_Fs rfl rfl, ?_⟩ | refine ⟨_, mg_Fd rfl rfl, ?_⟩ | refine ⟨Or.inl rfl, ?_⟩ | refine ⟨Or.inr ⟨_, rfl⟩, ?_⟩ | refine ⟨fun _ => ?_, fun h => absurd h (by decide)⟩ | refine ⟨fun h => absurd h (by decide), fun _ => ?_⟩)
      refine mg_cv (r181y d hI hf) (by omega) ?_
      repeat (first | refine ⟨_, mg_Fs rfl rfl, ?_⟩ | refine ⟨_, mg_Fd rfl rfl, ?_⟩ | refine ⟨Or.inl rfl, ?_⟩ | refine ⟨Or.inr ⟨_, rfl⟩, ?_⟩ | refine ⟨fun _ => ?_, fun h => absurd h (by decide)⟩ | refine ⟨fun h => absurd h (by decide), fun _ => ?_⟩)
      refine mg_cv (r181y d hI hg) (by omega) ?_
      repeat (first | refine ⟨_, mg_Fs rfl rfl, ?_⟩ | refine ⟨_, mg_Fd rfl rfl, ?_⟩ | refine ⟨Or.inl rfl, ?_⟩ | refine ⟨Or.inr ⟨_, rfl⟩, ?_⟩ | refine ⟨fun _ => ?_, fun h => absurd h (by decide)⟩ | refine ⟨fun h => absurd h (by decide), fun _ => ?_⟩)
      refine mg_cv (r176_0 d) (by omega) ?_
      repeat (first | refine ⟨_, mg_Fs rfl rfl, ?_⟩ | refine ⟨_, mg_Fd rfl rfl, ?_⟩ | refine ⟨Or.inl rfl, ?_⟩ | refine ⟨Or.inr ⟨_, rfl⟩, ?_⟩ | refine ⟨fun _ => ?_, fun h => absurd h (by decide)⟩ | refine ⟨fun h => absurd h (by decide), fun _ => ?_⟩)
      refine mg_m_mono (k201) (by omega) ?_
      rintro o q G1 ⟨rfl, rfl, hX, hgr, hg, hr, -⟩
      obtain ⟨e1, e2⟩ := hr i hi
      obtain ⟨e3, e4⟩ := hr j hj
      have h628 := hg.2.1
      have hX2 : rX G1 (mg_sF G1 148 31 (.int 0)) := ⟨fun _ _ => ⟨rfl, rfl⟩, rfl, rfl, fun b k hb => mg_sF_ne _ _ (by omega)⟩
      have hI2 : rI (mg_sF G1 148 31 (.int 0)) A := hX2.I (hX.I hI3)
      have hgr2 : rGr (mg_sF G1 148 31 (.int 0)) (aD A) (aG A) := ⟨(mg_sF_ne _ _ (by decide)).trans hgr.1, hgr.2⟩
      have hL2 : rL9 (mg_sF G1 148 31 (.int 0)) [] := ⟨mg_sF_at _ _ _ _, fun i z h => absurd (show (none : Option pP) = some z from h) (fun q => nomatch q)⟩
      have hz : pIn (aG A) (aR A i, aR A j) := ⟨e2, e4⟩
      have km : mg_m (mg_KM scr t) (d + 16) 292 [.ref 148, .int (Int32.ofNat (aR A i)), .int (Int32.ofNat (aR A j))] (mg_sF G1 148 31 (.int 0)) (fun o q G' => o = .inl none ∧ q = 0 ∧ rM9 (mg_sF G1 148 31 (.int 0)) G' ∧ rL9 G' (g_mt (aG A) (aV A) (aV A + 1) [] (aR A i, aR A j))) := mg_m_mono (r292 (z := (aR A i, aR A j)) hg (aV A + 1) d [] (aR A i) (aR A j) _ (by omega) (pR_0 hz) List.nodup_nil (fun w h => absurd h List.not_mem_nil) hI2 hgr2 hL2) (by omega) (fun _ _ _ w => w)
      repeat (first | refine ⟨_, mg_Fs rfl rfl, ?_⟩ | refine ⟨Or.inl rfl, ?_⟩ | refine ⟨Or.inr ⟨_, rfl⟩, ?_⟩ | refine ⟨fun _ => ?_, fun h => absurd h (by decide)⟩ | refine ⟨fun h => absurd h (by decide), fun _ => ?_⟩)
      refine ⟨rfl, _, rfl, rfl, ?_⟩
      repeat (first | refine ⟨_, mg_Fs rfl rfl, ?_⟩ | refine ⟨Or.inl rfl, ?_⟩ | refine ⟨Or.inr ⟨_, rfl⟩, ?_⟩ | refine ⟨fun _ => ?_, fun h => absurd h (by decide)⟩ | refine ⟨fun h => absurd h (by decide), fun _ => ?_⟩)
      refine ⟨12, _, i, mg_Ai rfl (by decide), mg_ixN (by omega), by omega, ?_⟩
      rw [show (mg_sF G1 148 31 (.int 0)).1 159 i = Int32.ofNat (aR A i) from e1]
      repeat (first | refine ⟨_, mg_Fs rfl rfl, ?_⟩ | refine ⟨Or.inl rfl, ?_⟩ | refine ⟨Or.inr ⟨_, rfl⟩, ?_⟩ | refine ⟨fun _ => ?_, fun h => absurd h (by decide)⟩ | refine ⟨fun h => absurd h (by decide), fun _ => ?_⟩)
      refine ⟨12, _, j, mg_Ai rfl (by decide), mg_ixN (by omega), by omega, ?_⟩
      rw [show (mg_sF G1 148 31 (.int 0)).1 159 j = Int32.ofNat (aR A j) from e3]
      repeat (first | refine ⟨_, mg_Fs rfl rfl, ?_⟩ | refine ⟨Or.inl rfl, ?_⟩ | refine ⟨Or.inr ⟨_, rfl⟩, ?_⟩ | refine ⟨fun _ => ?_, fun h => absurd h (by decide)⟩ | refine ⟨fun h => absurd h (by decide), fun _ => ?_⟩)
      refine mg_m_mono (km) (by omega) ?_
      rintro o q G3 ⟨rfl, rfl, hM3, hL3⟩
      exact ⟨_, mg_Fe hL3.1 rfl rfl, Or.inl rfl, rfl, rfl, (hX.tr hX2).tr hM3.X⟩
end RM
/-- the slot of a pair -/
def pHs (z : pP) : Nat := (Int32.ofNat (628 * z.1 + z.2) * Int32.ofInt (-1640531535)).toBitVec.toNat / 2 ^ 22
theorem pHs_lt (z : pP) : pHs z < 1024 := by
  unfold pHs
  have := (Int32.ofNat (628 * z.1 + z.2) * Int32.ofInt (-1640531535)).toBitVec.isLt
  omega
theorem pHs_i (y : Int32) : (y.toUInt32 >>> (((Int8.ofInt 22).toInt32).toUInt32 &&& Int32.toUInt32 31)).toInt32 = Int32.ofNat (y.toBitVec.toNat / 2 ^ 22) := by
  have e : (((Int8.ofInt 22).toInt32).toUInt32 &&& Int32.toUInt32 31) = UInt32.ofNat 22 := by decide
  rw [e]
  apply Int32.toBitVec_inj.mp
  apply BitVec.eq_of_toNat_eq
  show ((y.toUInt32 >>> UInt32.ofNat 22).toBitVec).toNat = (BitVec.ofNat 32 (y.toBitVec.toNat / 2 ^ 22)).toNat
  rw [UInt32.toBitVec_shiftRight]
  show (y.toBitVec >>> (BitVec.ofNat 32 22 % 32)).toNat = _
  have := y.toBitVec.isLt
  rw [show (BitVec.ofNat 32 22 % 32 : BitVec 32) = 22#32 by decide, BitVec.ushiftRight_eq', BitVec.toNat_ushiftRight, Nat.shiftRight_eq_div_pow]
  have hb : y.toBitVec.toNat / 2 ^ 22 < 2 ^ 32 := by omega
  exact ((BitVec.toNat_ofNat _ _).trans (Nat.mod_eq_of_lt hb)).symm
theorem mg_d628 {a b : Nat} (ha : a < 628) (hb : b < 628) : Int32.ofNat (628 * a + b) / (Int16.ofInt 628).toInt32 = Int32.ofNat a ∧ Int32.ofNat (628 * a + b) - Int32.ofNat (628 * a + b) / (Int16.ofInt 628).toInt32 * (Int16.ofInt 628).toInt32 = Int32.ofNat b := by
  have e : Int32.ofNat (628 * a + b) / (Int16.ofInt 628).toInt32 = Int32.ofNat a := by
    rw [mg_628, ← Int32.ofNat_div (by omega) (by decide), show (628 * a + b) / 628 = a by omega]
  refine ⟨e, ?_⟩
  rw [e, mg_628, ← Int32.ofNat_mul, sub_ofN (by omega), show 628 * a + b - a * 628 = b by omega]
def pA (M : List pP) (z : pP) : List pP := if z ∈ M then M else M ++ [z]
theorem pA_ok {g : a_Gr} {z y : pP} {M : List pP} (hn : M.Nodup) (hR : ∀ w, w ∈ M → pR g z w) (hy : pR g z y) : (pA M y).Nodup ∧ (∀ w, w ∈ pA M y → pR g z w) ∧ (∀ w, w ∈ M → w ∈ pA M y) ∧ y ∈ pA M y ∧ ∀ (i : Nat) (w : pP), M[i]? = some w → (pA M y)[i]? = some w := by
  unfold pA
  by_cases h : y ∈ M
  · rw [if_pos h]
    exact ⟨hn, hR, fun _ w => w, h, fun _ _ w => w⟩
  · rw [if_neg h]
    refine ⟨List.nodup_append.mpr ⟨hn, List.nodup_cons.mpr ⟨List.not_mem_nil, List.nodup_nil⟩, fun u hu v hv e => h (by rw [List.mem_singleton] at hv; rw [← hv, ← e]; exact hu)⟩, fun w hw => ?_, fun w hw => List.mem_append.mpr (Or.inl hw), List.mem_append.mpr (Or.inr (List.mem_singleton.mpr rfl)), fun i w hi => ?_⟩
    · rcases List.mem_append.mp hw with q | q
      · exact hR w q
      · rw [List.mem_singleton.mp q]
        exact hy
    · rw [List.getElem?_append_left (List.getElem?_eq_some_iff.mp hi).1]
      exact hi
/-- the pairs met, in the class's memory -/
def cQ9 (G : mg_G) (M : List pP) : Prop := G.2.2.2.2 122 11 = .int (Int32.ofNat M.length) ∧ (∀ i z, M[i]? = some z → G.1 132 i = Int32.ofNat (628 * z.1 + z.2)) ∧ ∃ sl : Nat → Nat, (∀ q, q < 1024 → G.1 131 q = Int32.ofNat (sl q)) ∧ a_hs 1024 1 pHs M sl
def cF9 (G G' : mg_G) : Prop := mg_fr (fun a => a = 122 ∨ a = 131 ∨ a = 132) G G' ∧ G'.1 122 = G.1 122 ∧ G'.2.1 122 = G.2.1 122 ∧ G'.2.2.1 122 = G.2.2.1 122 ∧ G'.2.2.2.1 122 = G.2.2.2.1 122 ∧ ∀ k, k ≠ 11 → G'.2.2.2.2 122 k = G.2.2.2.2 122 k
theorem cF9.rf (G : mg_G) : cF9 G G := ⟨mg_fr.rf _ _, rfl, rfl, rfl, rfl, fun _ _ => rfl⟩
theorem cF9.tr {G G' G'' : mg_G} (h : cF9 G G') (h2 : cF9 G' G'') : cF9 G G'' := ⟨h.1.tr h2.1, h2.2.1.trans h.2.1, h2.2.2.1.trans h.2.2.1, h2.2.2.2.1.trans h.2.2.2.1, h2.2.2.2.2.1.trans h.2.2.2.2.1, fun k hk => (h2.2.2.2.2.2 k hk).trans (h.2.2.2.2.2 k hk)⟩
theorem cF9.g {G G' : mg_G} {nv : Nat} {g : a_Gr} (h : cF9 G G') (hg : cGr G 122 nv g) : cGr G' 122 nv g := by
  obtain ⟨h1, h2, h3, h4, h5⟩ := hg
  have e125 := (h.1 125 (by decide)).1
  have e126 := (h.1 126 (by decide)).1
  have e127 := (h.1 127 (by decide)).1
  refine ⟨(h.2.2.2.2.2 12 (by decide)).trans h1, (h.2.2.2.2.2 10 (by decide)).trans h2, fun k hk => (congrFun e125 k).trans (h3 k hk), fun k hk => ⟨(congrFun e126 k).trans (h4 k hk).1, (congrFun e127 k).trans (h4 k hk).2⟩, fun k h2 hk => ⟨(congrFun e126 k).trans (h5 k h2 hk).1, (congrFun e127 k).trans (h5 k h2 hk).2⟩⟩
theorem cF9.D {G G' : mg_G} {A : a_A} (h : cF9 G G') (hD : cDA G A) : cDA G' A := by
  obtain ⟨h1, h2, h3, h4, h5, h6, h7⟩ := hD
  exact ⟨h.g h1, h2, h3, fun f hf => ⟨(congrFun (h.1 129 (by decide)).1 f).trans (h4 f hf).1, (h4 f hf).2⟩, fun j hj => (congrFun (h.1 130 (by decide)).1 j).trans (h5 j hj), fun y hy r hr => by rw [(h.1 128 (by decide)).1]; exact h6 y hy r hr, (h.2.2.2.2.2 9 (by decide)).trans h7⟩
theorem cF9.w {G G' : mg_G} {A : a_A} (h : cF9 G G') (hD : cDw G A) : cDw G' A := by
  have e0 := (h.1 0 (by decide)).2.2.2.2
  rcases hD with q | ⟨q, q2⟩
  · exact Or.inl ((congrFun e0 7).trans q)
  · exact Or.inr ⟨(congrFun e0 7).trans q, h.D q2⟩
