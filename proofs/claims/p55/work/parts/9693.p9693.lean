theorem cRow.ne {G : mg_G} {b r r' n n' : Nat} {T : a_T} {g : Nat → Int64} (h : cRow G b r' n' T) (hr : r ≠ r') (h4 : n ≤ 4) (h4' : n' ≤ 4) : cRow (cW G b r n g) b r' n' T := fun w hw => by
  rw [cW_at _ _ _ _ _ _ (by omega)]
  exact h w hw
theorem cS.wf {G : mg_G} {s : Nat} {A : a_A} (h : cS G s A) (hW : aW A) {r n : Nat} {g : Nat → Int64} (hr : aF A ≤ r) : cS (cW G (s + 2) r n g) s A := by
  have hw4 : a_wds (aV A) ≤ 4 := by
    rcases (a_wds_i (aV A) hW.2.1.2.2.2).1 with e | e | e <;> omega
  obtain ⟨h1, h2, h3, h4, h5, h6, h7, h8, h9⟩ := h
  refine ⟨h1, h2, h3, fun f hf w hw2 => ?_, fun f hf => ?_, fun v hv => ?_, h7, h8, h9⟩
  · rw [cW_at _ _ _ _ _ _ (by omega)]
    exact h4 f hf w hw2
  · rw [cW_ne _ _ _ _ _ _ (by omega)]; exact h5 f hf
  · rw [cW_ne _ _ _ _ _ _ (by omega)]; exact h6 v hv
/-- places of the state and of what is used up -/
def kB (a : Nat) : Prop := a = 0 ∨ kQ 30 a ∨ (133 ≤ a ∧ a ≤ 145) ∨ (4 ≤ a ∧ a ≤ 29) ∨ kG 122 a
theorem cT.ch {G G' : mg_G} {S : a_S} (h : cT G S) (hf : mg_fr kB G G') {B : a_A} (hS : cS G' 30 B) (hW : aW B) (h0 : cDw G' B) : cT G' (B, S.2) := by
  obtain ⟨h1, h2, h3, h4, h5, h6, h7, -⟩ := h
  have e3 := (hf 3 (by unfold kB kG kQ; omega)).2.2.2.2
  exact ⟨hS, hW, h3.fr hf (fun a ha => by unfold kB kG kQ; omega), h4.fr hf (fun a ha => by unfold kB kG kQ; omega), h5.fr hf (by unfold kB kG kQ; omega) (by unfold kB kG kQ; omega), ⟨by rw [e3]; exact h6.1, by rw [e3]; exact h6.2⟩, h7.fr hf (by unfold kB kG kQ; omega) (by unfold kB kG kQ; omega), h0⟩
theorem frB {G G' : mg_G} (h : mg_fr kB G G') : cFr148 G G' := h.mono (fun a ha => by unfold kB kG kQ at ha; show a < 148; omega)
/-- the ring of remembered states, one more -/
theorem a_ring {nx len i : Nat} (hn : nx < 8) (hl : len < 8) (hi : i < len) : ((nx + 1) % 8 + 8 - (len + 1) + i) % 8 = (nx + 8 - len + i) % 8 ∧ (nx + 8 - len + i) % 8 ≠ nx := by omega
theorem a_ring2 {nx len : Nat} (hn : nx < 8) (hl : len < 8) : ((nx + 1) % 8 + 8 - (len + 1) + len) % 8 = nx := by omega
theorem a_ring3 {nx i : Nat} (hn : nx < 8) (hi : i < 7) : ((nx + 1) % 8 + 8 - 8 + i) % 8 = (nx + 8 - 8 + (i + 1)) % 8 ∧ (nx + 8 - 8 + (i + 1)) % 8 ≠ nx := by omega
theorem a_ring4 {nx : Nat} (hn : nx < 8) : ((nx + 1) % 8 + 8 - 8 + 7) % 8 = nx := by omega
theorem mg_rem8 : ∀ n, n < 8 → (Int32.ofNat n + Int32.ofInt 1) - (Int32.ofNat n + Int32.ofInt 1) / (Int8.ofInt 8).toInt32 * (Int8.ofInt 8).toInt32 = Int32.ofNat ((n + 1) % 8) := by decide +kernel
theorem mg_rem7 : ∀ n, n < 8 → (Int32.ofNat n + (Int8.ofInt 8).toInt32 - Int32.ofInt 1) - (Int32.ofNat n + (Int8.ofInt 8).toInt32 - Int32.ofInt 1) / (Int8.ofInt 8).toInt32 * (Int8.ofInt 8).toInt32 = Int32.ofNat ((n + 7) % 8) := by decide +kernel
section KC
variable {scr : Nat × (Nat → Int32)} {t : List mg_S} {G : mg_G} {S : a_S} {A : a_A}
theorem c26 (d : Nat) {U : List a_A} (hU : cUn G U) (hS : cS G 30 A) (hW : aW A) : mg_m (mg_KC scr t) (d + 2) 26 [.ref 38, .ref 30] G (fun o q G' => o = .inl none ∧ q = 0 ∧ cUn G' (a_push U A) ∧ mg_fr (fun a => a = 38 ∨ (42 ≤ a ∧ a < 106)) G G') := by
  obtain ⟨nx, h1, h2, h3, h4, h5, h6⟩ := hU
  have hm := mg_rem8 nx h1
  refine mg_me [] 60 my_26 ms_26 (Nat.le_of_ble_eq_true rfl) ?_
  refine ⟨_, mg_Fs rfl rfl, _, mg_Fe h2 rfl rfl, _, _, nx, _, mg_Ar rfl (by decide), mg_ixN (by omega), h1, h5 nx h1, ?_⟩
  refine ⟨Or.inr ⟨_, (kc_s3 nx (by omega)).1⟩, mg_m_mono (c64A d (kc_s3 nx (by omega)) kc_s1 (by omega) hS hW) (by omega) ?_⟩
  rintro o q G1 ⟨rfl, rfl, hS1, hF1⟩
  have h38 := (hF1 38 (by unfold kQ; omega)).2.2.2.2
  have h39 := (hF1 39 (by unfold kQ; omega)).2.2.2.1
  have h21 : G1.2.2.2.2 38 1 = .int (Int32.ofNat nx) := by rw [h38]; exact h2
  have h31 : G1.2.2.2.2 38 2 = .int (Int32.ofNat U.length) := by rw [h38]; exact h3
  have hF0 : ∀ G2, mg_fr (fun a => a = 38) G1 G2 → mg_fr (fun a => a = 38 ∨ (42 ≤ a ∧ a < 106)) G G2 := fun G2 h => (hF1.mono (fun a ha => Or.inr (by unfold kQ at ha; omega))).tr (h.mono (fun a ha => Or.inl ha))
  have old : ∀ G2, mg_fr (fun a => a = 38) G1 G2 → ∀ r, r < 8 → r ≠ nx → ∀ B, cS G (42 + 8 * r) B → cS G2 (42 + 8 * r) B := fun G2 h r hr hrn B hB => (hB.fr hF1 (fun a ha hb => by unfold kQ at ha hb; omega)).fr h (fun a ha hb => by unfold kQ at ha; omega)
  have new : ∀ G2, mg_fr (fun a => a = 38) G1 G2 → cS G2 (42 + 8 * nx) A := fun G2 h => hS1.fr h (fun a ha hb => by unfold kQ at ha; omega)
  refine ⟨_, mg_Fe h21 rfl rfl, rfl, _, rfl, rfl, ?_⟩
  have f38 : mg_fr (fun a => a = 38) G1 (mg_sF G1 38 1 (.int (Int32.ofNat nx + Int32.ofInt 1 - (Int32.ofNat nx + Int32.ofInt 1) / (Int8.ofInt 8).toInt32 * (Int8.ofInt 8).toInt32))) := mg_fr.sF _ _ _ rfl
  have g2 : (mg_sF G1 38 1 (.int (Int32.ofNat nx + Int32.ofInt 1 - (Int32.ofNat nx + Int32.ofInt 1) / (Int8.ofInt 8).toInt32 * (Int8.ofInt 8).toInt32))).2.2.2.2 38 1 = .int (Int32.ofNat ((nx + 1) % 8)) := (mg_sF_at _ _ _ _).trans (congrArg Value.int hm)
  have g3 : (mg_sF G1 38 1 (.int (Int32.ofNat nx + Int32.ofInt 1 - (Int32.ofNat nx + Int32.ofInt 1) / (Int8.ofInt 8).toInt32 * (Int8.ofInt 8).toInt32))).2.2.2.2 38 2 = .int (Int32.ofNat U.length) := (mg_sF_ne _ _ (by decide)).trans h31
  generalize hGx : mg_sF G1 38 1 (.int (Int32.ofNat nx + Int32.ofInt 1 - (Int32.ofNat nx + Int32.ofInt 1) / (Int8.ofInt 8).toInt32 * (Int8.ofInt 8).toInt32)) = Gx at f38 g2 g3
  rw [show ((G1.1, G1.2.1, G1.2.2.1, G1.2.2.2.1, mg_u2 G1.2.2.2.2 38 1 (.int ((fun x y => x - x / y * y) ((fun x y => x + y) (Int32.ofNat nx) (Int32.ofInt 1)) (Int8.ofInt 8).toInt32))) : mg_G) = Gx from hGx]
  refine ⟨_, mg_Fe g3 rfl rfl, fun h => ?_, fun h => ?_⟩
  · have h := (mg_leN (a := 8) (by decide) (by omega)).mp h
    have h8 : U.length = 8 := by omega
    have hln : (a_push U A).length = 8 := by unfold a_push; rw [if_pos h8, List.length_append, List.length_tail, h8]; rfl
    refine ⟨rfl, rfl, ⟨(nx + 1) % 8, Nat.mod_lt _ (by decide), g2, by rw [hln, ← h8]; exact g3, by rw [hln]; exact Nat.le_refl 8, fun i hi => by rw [(f38 39 (by decide)).2.2.2.1, h39]; exact h5 i hi, fun i B hB => ?_⟩, hF0 _ f38⟩
    rw [hln]
    unfold a_push at hB
    rw [if_pos h8] at hB
    have hlt : U.tail.length = 7 := by rw [List.length_tail, h8]
    by_cases hi : i < 7
    · rw [List.getElem?_append_left (by omega), List.getElem?_tail] at hB
      obtain ⟨r1, r2⟩ := a_ring3 h1 hi
      have := h6 (i + 1) B hB
      rw [h8] at this
      rw [r1]
      exact ⟨old _ f38 _ (Nat.mod_lt _ (by decide)) r2 B this.1, this.2⟩
    · have hi2 := (List.getElem?_eq_some_iff.mp hB).1
      rw [List.length_append, hlt] at hi2
      have hi2 : i < 8 := hi2
      have e : i = 7 := by omega
      subst e
      rw [List.getElem?_append_right (by omega), hlt] at hB
      have := Option.some.inj hB
      subst this
      rw [a_ring4 h1]
      exact ⟨new _ f38, hW⟩
  · have h := (mg_ltN (b := 8) (by omega) (by decide)).mp h
    have hln : (a_push U A).length = U.length + 1 := by unfold a_push; rw [if_neg (by omega), List.length_append]; rfl
    have f38' : mg_fr (fun a => a = 38) G1 (mg_sF Gx 38 2 (.int (Int32.ofNat U.length + Int32.ofInt 1))) := f38.tr (mg_fr.sF _ _ _ rfl)
    refine ⟨_, mg_Fe g3 rfl rfl, rfl, _, rfl, rfl, rfl, rfl, ⟨(nx + 1) % 8, Nat.mod_lt _ (by decide), (mg_sF_ne _ _ (by decide)).trans g2, ?_, by rw [hln]; exact h, fun i hi => by rw [(f38' 39 (by decide)).2.2.2.1, h39]; exact h5 i hi, fun i B hB => ?_⟩, hF0 _ f38'⟩
    · rw [hln]
      exact (mg_sF_at _ _ _ _).trans (congrArg Value.int (mg_inc _))
    · rw [hln]
      unfold a_push at hB
      rw [if_neg (show ¬ U.length = 8 by omega)] at hB
      by_cases hi : i < U.length
      · rw [List.getElem?_append_left hi] at hB
        obtain ⟨r1, r2⟩ := a_ring h1 h hi
        have := h6 i B hB
        rw [r1]
        exact ⟨old _ f38' _ (Nat.mod_lt _ (by decide)) r2 B this.1, this.2⟩
      · have hi2 := (List.getElem?_eq_some_iff.mp hB).1
        rw [List.length_append] at hi2
        have hi2 : i < U.length + 1 := hi2
        have e : i = U.length := by omega
        subst e
        rw [List.getElem?_append_right (Nat.le_refl _), Nat.sub_self] at hB
        have := Option.some.inj hB
        subst this
        rw [a_ring2 h1 h]
        exact ⟨new _ f38', hW⟩
/-- the state ahead of a change is remembered; no drawing stands -/
theorem c163 (d : Nat) (hT : cT G S) : mg_m (mg_KC scr t) (d + 3) 163 [.ref 0] G (fun o q G' => o = .inl none ∧ q = 0 ∧ cT G' (sA S, a_push (sU S) (sA S), S.2.2) ∧ G'.2.2.2.2 0 7 = .int 0 ∧ cFr148 G G') := by
  obtain ⟨h1, h2, h3, h4, h5, h6, h7, h8⟩ := hT
  refine mg_me [] 60 my_163 ms_163 (Nat.le_of_ble_eq_true rfl) ?_
  repeat (first | refine ⟨_, mg_Fs rfl rfl, ?_⟩ | refine ⟨Or.inl rfl, ?_⟩ | refine ⟨Or.inr ⟨_, rfl⟩, ?_⟩ | refine ⟨fun _ => ?_, fun h => absurd h (by decide)⟩ | refine ⟨fun h => absurd h (by decide), fun _ => ?_⟩)
  refine mg_m_mono (c26 d h3 h1 h2) (by omega) ?_
  rintro o q G1 ⟨rfl, rfl, hU, hF1⟩
  have hF : mg_fr (fun a => a = 0 ∨ a = 38 ∨ (42 ≤ a ∧ a < 106)) G (mg_sF G1 0 7 (.int (Int32.ofInt 0))) := (hF1.mono (fun a ha => Or.inr ha)).tr (mg_fr.sF _ _ _ (Or.inl rfl))
  have e3 := (hF 3 (by omega)).2.2.2.2
  exact ⟨rfl, _, rfl, rfl, rfl, rfl, ⟨h1.fr hF (fun a ha => by unfold kQ at ha; omega), h2, hU.fr (mg_fr.sF (p := fun a => a = 0) _ _ _ rfl) (fun a ha => by omega), h4.fr hF (fun a ha => by omega), h5.fr hF (by omega) (by omega), ⟨by rw [e3]; exact h6.1, by rw [e3]; exact h6.2⟩, h7.fr hF (by omega) (by omega), Or.inl (mg_sF_at _ _ _ _)⟩, mg_sF_at _ _ _ _, hF.mono (fun a ha => by show a < 148; omega)⟩
theorem c66 {K : mg_K} {s : Nat} (d : Nat) (H : kS K s) (hS : cS G s A) (hW : aW A) (h11 : aF A < 12) {T : a_T} (hr : cRow G (s + 2) (aF A) (a_wds (aV A)) T) (hp : a_per (aV A) T) {l : List Nat} (hl : a_nm7 l) : mg_m K (d + 1) 66 [.ref s, .long (a_pk l)] G (fun o q G' => o = .inl (some (.int (Int32.ofNat (aF A)))) ∧ q = 0 ∧ cS G' s (addF A l T) ∧ aW (addF A l T) ∧ mg_fr (fun a => a = s ∨ a = s + 3) G G') := by
  obtain ⟨h1, h2, h3, h4, h5, h6, h7, h8, h9⟩ := hS
  refine mg_me [] 60 my_66 ms_66 (Nat.le_of_ble_eq_true rfl) ?_
  refine ⟨_, H.fn, _, H.nf h2, 12, aF A, H.s3, mg_ixN (by omega), h11, ?_⟩
  refine ⟨_, H.nf h2, rfl, _, H.1, rfl, ?_⟩
  have e6 : (mg_sF (mg_sJ G (s + 3) (aF A) (a_pk l)) s 6 (.int (Int32.ofNat (aF A) + Int32.ofInt 1))).2.2.2.2 s 6 = .int (Int32.ofNat (aF A + 1)) := (mg_sF_at _ _ _ _).trans (congrArg Value.int (mg_inc _))
  have nf : ∀ b k, ¬ (b = s ∧ k = 6) → (mg_sF (mg_sJ G (s + 3) (aF A) (a_pk l)) s 6 (.int (Int32.ofNat (aF A) + Int32.ofInt 1))).2.2.2.2 b k = G.2.2.2.2 b k := fun b k h => mg_sF_ne _ _ h
  have nj : ∀ b i, ¬ (b = s + 3 ∧ i = aF A) → (mg_sJ G (s + 3) (aF A) (a_pk l)).2.1 b i = G.2.1 b i := fun b i h => (mg_u2_at _ _ _ _ _ _).trans (if_neg h)
  refine ⟨_, H.nf e6, Or.inl rfl, ?_, rfl, ⟨(nf _ _ (by omega)).trans h1, e6, (nf _ _ (by omega)).trans h3, fun f hf => ?_, fun f hf => ?_, fun v hv => (nj _ _ (by omega)).trans (h6 v hv), h7, h8, h9⟩, addF_W hW h11 hl hp, (mg_fr.sJ _ _ _ (Or.inr rfl)).tr (mg_fr.sF _ _ _ (Or.inl rfl))⟩
  · exact congrArg (fun x => (Sum.inl (some (Value.int x)) : Option Value ⊕ String)) (mg_dec (aF A))
  · have hf : f < aF A + 1 := hf
    intro w hw
    refine (nj _ _ (by omega)).trans ?_
    show G.2.1 (s + 2) (4 * f + w) = a_wd (mg_u (aT A) (aF A) T f) w
    by_cases e : f = aF A
    · subst e
      rw [mg_u_eq]
      exact hr w hw
    · rw [mg_u_ne _ _ e]
      exact h4 f (by omega) w hw
  · have hf : f < aF A + 1 := hf
    show (mg_sJ G (s + 3) (aF A) (a_pk l)).2.1 (s + 3) f = a_pk (mg_u (aFN A) (aF A) l f)
    by_cases e : f = aF A
    · subst e
      rw [mg_u_eq]
      exact (mg_u2_at _ _ _ _ _ _).trans (if_pos ⟨rfl, rfl⟩)
    · rw [mg_u_ne _ _ e, nj _ _ (by omega)]
      exact h5 f (by omega)
/-- the row behind the functions holds T: it becomes a function without a name -/
theorem cAdd (d : Nat) {G1 : mg_G} (hT : cT G1 (sA S, a_push (sU S) (sA S), S.2.2)) (h0 : G1.2.2.2.2 0 7 = .int 0) (hF : cFr148 G G1) (h11 : aF (sA S) < 12) {T : a_T} (hr : cRow G1 32 (aF (sA S)) (a_wds (aV (sA S))) T) (hp : a_per (aV (sA S)) T) : mg_m (mg_KC scr t) (d + 1) 66 [.ref 30, .long 0] G1 (fun o q G' => o = .inl (some (.int (Int32.ofNat (aF (sA S))))) ∧ q = 0 ∧ cT G' (sAdd S T) ∧ cFr148 G G') := by
  refine mg_m_mono (c66 (K := mg_KC scr t) d kc_s1 hT.1 hT.2.1 h11 hr hp (l := []) ⟨fun c h => absurd h List.not_mem_nil, by decide⟩) (Nat.le_refl _) ?_
  rintro o q G2 ⟨rfl, rfl, hS2, hW2, hF2⟩
  have hF2' : mg_fr kB G1 G2 := hF2.mono (fun a ha => by unfold kB kG kQ; omega)
  have e0 := (hF2 0 (by decide)).2.2.2.2
  exact ⟨rfl, rfl, hT.ch hF2' hS2 hW2 (Or.inl (by rw [e0]; exact h0)), hF.tr (frB hF2')⟩
end KC
