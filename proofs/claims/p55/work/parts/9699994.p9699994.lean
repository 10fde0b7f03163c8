theorem mm_oldS (L : Nat) (xs : Nat → Int32) : mm_old L xs 1000001 = some (0, 5, .inl (fun j => mm_sign.getD j 0)) := rfl
/-- what stands as it was: the rows ahead, the prefixes ahead, no error -/
def yK (G0 G : mg_G) (row pc : Nat) : Prop := yF G0 G ∧ G.2.2.2.2 3 6 = G0.2.2.2.2 3 6 ∧ G.2.2.2.2 3 7 = G0.2.2.2.2 3 7 ∧ (∀ i, i < 4 * row → G.2.1 28 i = G0.2.1 28 i) ∧ ∀ i, i < pc → G.1 29 i = G0.1 29 i
theorem yK.rf (G : mg_G) (row pc : Nat) : yK G G row pc := ⟨mg_fr.rf _ _, rfl, rfl, fun _ _ => rfl, fun _ _ => rfl⟩
theorem yK.tr {G0 G G1 : mg_G} {row row' pc pc' : Nat} (h : yK G0 G row pc) (h2 : yK G G1 row' pc') (hr : row ≤ row') (hp : pc ≤ pc') : yK G0 G1 row pc := ⟨h.1.tr h2.1, h2.2.1.trans h.2.1, h2.2.2.1.trans h.2.2.1, fun i hi => (h2.2.2.2.1 i (by omega)).trans (h.2.2.2.1 i hi), fun i hi => (h2.2.2.2.2 i (by omega)).trans (h.2.2.2.2 i hi)⟩
theorem yK.row {G0 G : mg_G} {row pc r n : Nat} {T : a_T} (h : yK G0 G row pc) (hT : cRow G0 28 r n T) (hr : r < row) (hn : n ≤ 4) : cRow G 28 r n T := fun w hw => (h.2.2.2.1 _ (by omega)).trans (hT w hw)
theorem yK.tk {G G1 : mg_G} {row pc : Nat} (hf : cTf G G1) : yK G G1 row pc := ⟨hf.y, congrFun (hf 3 (by decide)).2.2.2.2 6, congrFun (hf 3 (by decide)).2.2.2.2 7, fun i _ => congrFun (hf 28 (by decide)).2.1 i, fun i _ => congrFun (hf 29 (by decide)).1 i⟩
theorem yK.cW (G : mg_G) {row pc r n : Nat} {g : Nat → Int64} (hr : row ≤ r) : yK G (cW G 28 r n g) row pc := ⟨mg_fr.cW _ _ _ _ (Or.inr (Or.inr (Or.inl rfl))), rfl, rfl, fun i hi => cW_at _ _ _ _ _ _ (by omega), fun _ _ => rfl⟩
theorem yK.r28 {G G1 : mg_G} {row pc : Nat} (hi : ∀ i, i < 4 * row → G1.2.1 28 i = G.2.1 28 i) (hf : mg_fr (fun a => a = 28) G G1) : yK G G1 row pc := ⟨hf.mono (fun a ha => Or.inr (Or.inr (Or.inl ha))), congrFun (hf 3 (by decide)).2.2.2.2 6, congrFun (hf 3 (by decide)).2.2.2.2 7, hi, fun i _ => congrFun (hf 29 (by decide)).1 i⟩
/-- a state on the way, against G0: the token at q, c prefixes -/
def yZ (G0 G : mg_G) (l : List Nat) (row pc c q : Nat) : Prop := yK G0 G row pc ∧ ckB G l ∧ ck G l q ∧ G.2.2.2.2 3 5 = .int (Int32.ofNat c)
section YZ
variable {G0 G G' : mg_G} {A : a_A} {l : List Nat} {row row' pc cc p u u' n : Nat} {T : a_T} {er : zEr} {o : Option Value ⊕ String}
theorem yI.Z (hI : yI G A l p cc) (row pc : Nat) : yZ G G l row pc cc p := ⟨yK.rf _ _ _, hI.2.2.2.1, hI.2.2.2.2.1, hI.2.2.2.2.2.2⟩
theorem yZ.I (h : yZ G0 G l row pc cc u) {p0 c0 : Nat} (hI : yI G0 A l p0 c0) : yI G A l u cc := ⟨hI.1.fr h.1.1 (fun a ha => by unfold kQ at ha; omega), hI.2.1, hI.2.2.1.fr h.1.1 (by decide) (by decide), h.2.1, h.2.2.1, (congrFun (h.1.1 27 (by decide)).2.2.2.2 1).trans hI.2.2.2.2.2.1, h.2.2.2⟩
theorem yZ.t (h : yZ G0 G l row pc cc u) (hB : ckB G' l) (hk : ck G' l u') (hf : cTf G G') : yZ G0 G' l row pc cc u' := ⟨h.1.tr (yK.tk hf) (Nat.le_refl _) (Nat.le_refl _), hB, hk, (congrFun (hf 3 (by decide)).2.2.2.2 5).trans h.2.2.2⟩
theorem yZ.q (h : yZ G0 G l row pc cc u) (w : yQ G A l row' cc (.inr (T, u')) o n G') (hr : row ≤ row') (hp : pc ≤ cc) : o = .inl none ∧ n = 0 ∧ yZ G0 G' l row pc cc u' ∧ cRow G' 28 row' (a_wds (aV A)) T ∧ yK G G' row' cc :=
  have k : yK G G' row' cc := ⟨w.2.2.1, w.2.2.2.2.2.2.1, w.2.2.2.2.2.2.2.1, w.2.2.2.2.2.2.2.2.2.1, w.2.2.2.2.2.2.2.2.2.2⟩
  ⟨w.1, w.2.1, ⟨h.1.tr k hr hp, w.2.2.2.1, w.2.2.2.2.1, w.2.2.2.2.2.1⟩, w.2.2.2.2.2.2.2.2.1, k⟩
theorem yZ.c (h : yZ G0 G l row pc cc u) {r k : Nat} {g : Nat → Int64} (hr : row ≤ r) : yZ G0 (cW G 28 r k g) l row pc cc u := ⟨h.1.tr (yK.cW G hr) (Nat.le_refl _) (Nat.le_refl _), h.2⟩
theorem yZ.Q (h : yZ G0 G l row pc pc u) (hT : cRow G 28 row (a_wds (aV A)) T) : yQ G0 A l row pc (.inr (T, u)) (.inl none) 0 G := ⟨rfl, rfl, h.1.1, h.2.1, h.2.2.1, h.2.2.2, h.1.2.1, h.1.2.2.1, hT, h.1.2.2.2.1, h.1.2.2.2.2⟩
theorem yZ.e (h : yZ G0 G l row pc cc u) {c' : Nat} (w : yQ G A l row' c' (.inl er) o n G') : o = .inr xA ∧ n = 1 ∧ yQ G0 A l row pc (.inl er) (.inr xA) 1 G' := yE_m h.1.1 w
theorem yZ.x (h : yZ G0 G l row pc cc u) (k : Int32) (p : Nat) : yQ G0 A l row pc (.inl (k, k_S l p)) (.inr xA) 1 (yX G k l p) := yE_x h.1.1
end YZ
/-- prefixes that are read: they are applied, the last one first -/
def yM (xs : List yPx) (r : zEr ⊕ (a_T × Nat)) : zEr ⊕ (a_T × Nat) := match r with
  | .inl e => .inl e
  | .inr x => .inr (xs.foldr yAp x.1, x.2)
theorem yM_s {xs : List yPx} {x : yPx} {r0 : zRs} {r : zEr ⊕ (a_T × Nat)} (h : zB r0 (fun T q => some (.inr (yAp x T, q))) = some r) : ∃ r', r0 = some r' ∧ yM xs r = yM (xs ++ [x]) r' := by
  rcases zB_s h with ⟨e, g1, rfl⟩ | ⟨T, q, g1, g2⟩
  · exact ⟨_, g1, rfl⟩
  · cases g2
    refine ⟨_, g1, ?_⟩
    show (.inr (xs.foldr yAp (yAp x T), q) : zEr ⊕ (a_T × Nat)) = .inr ((xs ++ [x]).foldr yAp T, q)
    rw [List.foldr_append]
    rfl
/-- the state while prefixes are read -/
def yH (G0 G : mg_G) (A : a_A) (l : List Nat) (row pc p : Nat) (xs : List yPx) : Prop := yZ G0 G l row pc (pc + xs.length) p ∧ (∀ i x, xs[i]? = some x → G.1 29 (pc + i) = Int32.ofNat (yPn x)) ∧ ∀ x, x ∈ xs → ∀ b v, x = some (b, v) → v < aV A
/-- one more -/
theorem mg_sF_nb (G : mg_G) {a : Nat} (k : Nat) (v : Value) {b : Nat} (h : b ≠ a) : (mg_sF G a k v).2.2.2.2 b = G.2.2.2.2 b := mg_u2_ne G.2.2.2.2 k v h
theorem ck.f {G G' : mg_G} {l : List Nat} {p : Nat} (h : ck G l p) (f : G'.2.2.2.2 12 = G.2.2.2.2 12) : ck G' l p := by
  unfold ck at h ⊢
  rw [f]
  exact h
theorem ckB.f {G G' : mg_G} {l : List Nat} (h : ckB G l) (f : G'.2.2.2.2 12 = G.2.2.2.2 12) : ckB G' l := by
  unfold ckB at h ⊢
  rw [f]
  exact h
theorem yH.s {G0 G G1 : mg_G} {A : a_A} {l : List Nat} {row pc p p' : Nat} {xs : List yPx} (h : yH G0 G A l row pc p xs) (hB : ckB G1 l) (hk : ck G1 l p') (hf : cTf G G1) (x : yPx) (hx : ∀ b v, x = some (b, v) → v < aV A) : yH G0 (mg_sF (mg_sI G1 29 (pc + xs.length) (Int32.ofNat (yPn x))) 3 5 (.int (Int32.ofNat (pc + xs.length) + Int32.ofInt 1))) A l row pc p' (xs ++ [x]) := by
  have h1 := h.1.t hB hk hf
  have f12 : (mg_sF (mg_sI G1 29 (pc + xs.length) (Int32.ofNat (yPn x))) 3 5 (.int (Int32.ofNat (pc + xs.length) + Int32.ofInt 1))).2.2.2.2 12 = G1.2.2.2.2 12 := mg_sF_nb _ _ _ (show (12 : Nat) ≠ 3 by decide)
  have e5 : Int32.ofNat (pc + xs.length) + Int32.ofInt 1 = Int32.ofNat (pc + (xs ++ [x]).length) := by
    rw [List.length_append, mg_inc]
    rfl
  refine ⟨⟨⟨h1.1.1.tr ((mg_fr.sI (p := fun a => a = 3 ∨ a = 12 ∨ a = 28 ∨ a = 29) G1 _ _ (Or.inr (Or.inr (Or.inr rfl)))).tr (mg_fr.sF (p := fun a => a = 3 ∨ a = 12 ∨ a = 28 ∨ a = 29) _ _ _ (Or.inl rfl))), (mg_sF_ne _ _ (by decide)).trans h1.1.2.1, (mg_sF_ne _ _ (by decide)).trans h1.1.2.2.1, h1.1.2.2.2.1, fun i hi => ?_⟩, hB.f f12, hk.f f12, (mg_sF_at _ _ _ _).trans (congrArg Value.int e5)⟩, fun i y hy => ?_, fun y hy => ?_⟩
  · exact (mg_sI_ne G1 29 (pc + xs.length) _ (show i ≠ pc + xs.length by omega)).trans (h1.1.2.2.2.2 i hi)
  · by_cases hi : i < xs.length
    · rw [List.getElem?_append_left hi] at hy
      exact (mg_sI_ne G1 29 (pc + xs.length) _ (show pc + i ≠ pc + xs.length by omega)).trans ((congrFun (hf 29 (by decide)).1 (pc + i)).trans (h.2.1 i y hy))
    · have hi2 : i = xs.length := by
        have := (List.getElem?_eq_some_iff.mp hy).1
        rw [List.length_append] at this
        have h9 : [x].length = 1 := rfl
        omega
      subst hi2
      rw [List.getElem?_append_right (Nat.le_refl _), Nat.sub_self] at hy
      cases hy
      exact mg_sI_eq G1 29 (pc + xs.length) _
  · rw [List.mem_append] at hy
    rcases hy with hy | hy
    · exact h.2.2 y hy
    · rw [List.mem_singleton.mp hy]
      exact hx
theorem yH.n {G : mg_G} {A : a_A} {l : List Nat} {p c : Nat} (hI : yI G A l p c) (row : Nat) : yH G G A l row c p [] := ⟨hI.Z row c, fun i x h => absurd h (by simp), fun x h => absurd h (by simp)⟩
/-- the main part is read: its place and its row -/
theorem yH.m {G0 G G1 : mg_G} {A : a_A} {l : List Nat} {row pc p q : Nat} {xs : List yPx} {T : a_T} {o : Option Value ⊕ String} {n : Nat} (h : yH G0 G A l row pc p xs) (w : yQ G A l row (pc + xs.length) (.inr (T, q)) o n G1) : o = .inl none ∧ n = 0 ∧ yH G0 G1 A l row pc q xs ∧ cRow G1 28 row (a_wds (aV A)) T := by
  obtain ⟨rfl, rfl, h1, h2, h3⟩ := h.1.q w (Nat.le_refl _) (by omega)
  exact ⟨rfl, rfl, ⟨h1, fun i x hx => (h3.2.2.2.2 _ (by have := (List.getElem?_eq_some_iff.mp hx).1; omega)).trans (h.2.1 i x hx), h.2.2⟩, h2⟩
section KC
variable {scr : Nat × (Nat → Int32)} {t : List mg_S} {A : a_A} {l : List Nat} {p pc row : Nat} {G G0 : mg_G}
/-- prefixes are applied -/
theorem c51t (hW : aW A) (hrow : row + 3 ≤ 150) (hpc : pc ≤ 600) (o : Int32) (d : Nat) {q : Nat} {p0 : Nat} (hI : yI G0 A l p0 pc) : ∀ n (xs : List yPx), xs.length = n → pc + n ≤ 600 → ∀ T G, yH G0 G A l row pc q xs → cRow G 28 row (a_wds (aV A)) T → mg_wp (mg_KC scr t) mc_51 (d + 3) 129 [some (.ref 3), some (.int o), some (.int (Int32.ofNat row)), some (.int (Int32.ofNat pc))] [] G (yQ G0 A l row pc (.inr (xs.foldr yAp T, q))) := by
  have h8 : aV A ≤ 8 := hW.2.1.2.2.2
  intro n
  induction n with
  | zero =>
    intro xs hn hpn T G h hT
    have hx : xs = [] := List.length_eq_zero_iff.mp hn
    subst hx
    have h5 := h.1.2.2.2
    refine mg_go [] 60 129 ms_51 ?_
    refine ⟨_, mg_Fe h5 rfl rfl, fun _ => ?_, fun q => absurd q (Int32.not_lt.mpr (Int32.le_refl _))⟩
    exact h.1.Q hT
  | succ n ih =>
    intro xs hn hpn T G h hT
    have hne : xs ≠ [] := fun z => by rw [z] at hn; cases hn
    obtain ⟨ys, x, rfl⟩ : ∃ ys x, xs = ys ++ [x] := ⟨xs.dropLast, xs.getLast hne, (List.dropLast_concat_getLast hne).symm⟩
    have hy : ys.length = n := by
      rw [List.length_append] at hn
      exact Nat.succ.inj hn
    have h5 : G.2.2.2.2 3 5 = .int (Int32.ofNat (pc + n + 1)) := by
      rw [h.1.2.2.2, hn]
      rfl
    have h29 : G.1 29 (pc + n) = Int32.ofNat (yPn x) := h.2.1 n x (by rw [← hy, List.getElem?_append_right (Nat.le_refl _), Nat.sub_self]; rfl)
    have hx : ∀ b v, x = some (b, v) → v < aV A := h.2.2 x (List.mem_append.mpr (Or.inr (List.mem_singleton.mpr rfl)))
    have e1 : Int32.ofNat (pc + n + 1) - Int32.ofInt 1 = Int32.ofNat (pc + n) := mg_dec (pc + n)
    have hI1 := h.1.I hI
    have k1 := c54 (scr := scr) (t := t) (G := mg_sF G 3 5 (.int (Int32.ofNat (pc + n + 1) - Int32.ofInt 1))) d h8 ((mg_sF_ne _ _ (by decide)).trans hI1.2.2.2.2.2.1) (T := T) hT hrow x hx
    refine mg_go [129] 60 129 ms_51 ?_
    refine ⟨_, mg_Fe h5 rfl rfl, fun q => absurd q (mg_nle (by omega) (by omega)), fun _ => ?_⟩
    refine ⟨_, mg_Fe h5 rfl rfl, rfl, _, rfl, rfl, ?_⟩
    refine ⟨_, mg_Fs rfl rfl, _, mg_Fe ((mg_sF_at _ _ _ _).trans (congrArg Value.int e1)) rfl rfl, 600, _, pc + n, mg_Ai rfl (by decide), mg_ixN (by omega), by omega, ?_⟩
    have h29' : (mg_sF G 3 5 (.int (Int32.ofNat (pc + n + 1) - Int32.ofInt 1))).1 29 (pc + n) = Int32.ofNat (yPn x) := h29
    rw [← h29'] at k1
    repeat (first | refine ⟨_, mg_Fs rfl rfl, ?_⟩ | refine ⟨Or.inl rfl, ?_⟩ | refine ⟨Or.inr ⟨_, rfl⟩, ?_⟩ | refine ⟨fun _ => ?_, fun h => absurd h (by decide)⟩ | refine ⟨fun h => absurd h (by decide), fun _ => ?_⟩)
    refine mg_m_mono (k1) (by omega) ?_
    rintro o2 q2 G2 ⟨rfl, rfl, w1, w2, w3⟩
    have kk : yK (mg_sF G 3 5 (.int (Int32.ofNat (pc + n + 1) - Int32.ofInt 1))) G2 row pc := yK.r28 w2 w3
    have k0 : yK G (mg_sF G 3 5 (.int (Int32.ofNat (pc + n + 1) - Int32.ofInt 1))) row pc := ⟨mg_fr.sF _ _ _ (Or.inl rfl), mg_sF_ne _ _ (by decide), mg_sF_ne _ _ (by decide), fun _ _ => rfl, fun _ _ => rfl⟩
    have f12 : G2.2.2.2.2 12 = G.2.2.2.2 12 := (w3 12 (by decide)).2.2.2.2.trans (mg_sF_nb _ _ _ (show (12 : Nat) ≠ 3 by decide))
    have h2 : yH G0 G2 A l row pc q ys := by
      refine ⟨⟨(h.1.1.tr k0 (Nat.le_refl _) (Nat.le_refl _)).tr kk (Nat.le_refl _) (Nat.le_refl _), h.1.2.1.f f12, h.1.2.2.1.f f12, ?_⟩, fun i x hx => ?_, fun x hx => h.2.2 x (List.mem_append.mpr (Or.inl hx))⟩
      · exact (congrFun (w3 3 (by decide)).2.2.2.2 5).trans ((mg_sF_at _ _ _ _).trans (congrArg Value.int (e1.trans (by rw [hy]))))
      · exact (congrFun (w3 29 (by decide)).1 _).trans (h.2.1 i x (by rw [List.getElem?_append_left (List.getElem?_eq_some_iff.mp hx).1]; exact hx))
    have := ih ys hy (by omega) (yAp x T) G2 h2 w1
    rw [List.foldr_append]
    exact this
end KC
