/-! REFERENCE: sifting all, exchange, remove -/
theorem a_mx_c {f g : Nat → Int32} : ∀ n, (∀ j, j < n → f j = g j) → a_mx f n = a_mx g n
  | 0, _ => rfl
  | k + 1, h => by
    have ih := a_mx_c k (fun j hj => h j (by omega))
    have e : f (a_mx f k) = g (a_mx g k) := by
      rw [ih]
      by_cases hk : k = 0
      · subst hk
        exact h 0 (by decide)
      · have := a_mx_lt g k (by omega)
        exact h _ (by omega)
    unfold a_mx
    rw [e, h k (Nat.lt_succ_self k), ih]
theorem a_tst_c {f g : Nat → Int32} {n : Nat} (h : ∀ j, j < n → f j = g j) : ∀ k j, j < n → a_tst f n k j = a_tst g n k j
  | 0, j, hj => h j hj
  | k + 1, j, hj => by
    have ih := a_tst_c h k
    show mg_u (a_tst f n k) (a_mx (a_tst f n k) n) (-1) j = mg_u (a_tst g n k) (a_mx (a_tst g n k) n) (-1) j
    rw [a_mx_c n ih]
    unfold mg_u
    split
    · rfl
    · exact ih j hj
theorem a_sq_c {f g : Nat → Int32} {n : Nat} (h : ∀ j, j < n → f j = g j) (k : Nat) : a_sq f n k = a_sq g n k := a_mx_c n (a_tst_c h k)
theorem a_sfs_c {A : a_A} {f g : Nat → Int32} (h : ∀ j, j < aV A → f j = g j) : ∀ k, a_sfs A f k = a_sfs A g k
  | 0 => rfl
  | k + 1 => by
    show a_sft (a_sfs A f k) (a_sq f (aV A) k) = a_sft (a_sfs A g k) (a_sq g (aV A) k)
    rw [a_sfs_c h k, a_sq_c h k]
theorem mg_u2_same {α : Type} (f : Nat → Nat → α) (a k : Nat) (x : α) : mg_u2 f a k x a = mg_u (f a) k x := mg_u_eq _ _ _
/-- the best so far, in the reference's walk -/
def a_bst (f : Nat → Int32) (b : Int32) (j : Nat) : Prop := (b = Int32.ofInt (-1) ∧ ∀ i, i < j → f i < 0) ∨ (b = Int32.ofNat (a_mx f j) ∧ 0 ≤ f (a_mx f j) ∧ 0 < j)
theorem a_bst_neg {f : Nat → Int32} {b : Int32} {j : Nat} (h : a_bst f b j) (hj : f j < 0) : a_bst f b (j + 1) := by
  rcases h with ⟨h1, h2⟩ | ⟨h1, h2, h3⟩
  · exact Or.inl ⟨h1, fun i hi => by
      by_cases e : i = j
      · rw [e]; exact hj
      · exact h2 i (by omega)⟩
  · have e : a_mx f (j + 1) = a_mx f j := if_neg (fun q => Int32.not_lt.mpr h2 (Int32.lt_trans q hj))
    exact Or.inr ⟨by rw [e]; exact h1, by rw [e]; exact h2, by omega⟩
theorem a_bst_new {f : Nat → Int32} {j : Nat} (h : ∀ i, i < j → f i < 0) (hj : 0 ≤ f j) : a_bst f (Int32.ofNat j) (j + 1) := by
  have e : a_mx f (j + 1) = j := by
    by_cases h0 : j = 0
    · subst h0
      unfold a_mx
      split <;> rfl
    · have h1 := h _ (a_mx_lt f j (by omega))
      exact if_pos (by
        rw [Int32.lt_iff_toInt_lt] at h1 ⊢
        rw [Int32.le_iff_toInt_le] at hj
        omega)
  exact Or.inr ⟨by rw [e], by rw [e]; exact hj, by omega⟩
theorem a_bst_le {f : Nat → Int32} {b : Int32} {j : Nat} (h1 : b = Int32.ofNat (a_mx f j)) (h2 : 0 ≤ f (a_mx f j)) (hj : f j ≤ f (a_mx f j)) : a_bst f b (j + 1) := by
  have e : a_mx f (j + 1) = a_mx f j := if_neg (Int32.not_lt.mpr hj)
  exact Or.inr ⟨by rw [e]; exact h1, by rw [e]; exact h2, by omega⟩
theorem a_bst_gt {f : Nat → Int32} {j : Nat} (h2 : 0 ≤ f (a_mx f j)) (hj : f (a_mx f j) < f j) : a_bst f (Int32.ofNat j) (j + 1) := by
  have e : a_mx f (j + 1) = j := if_pos hj
  exact Or.inr ⟨by rw [e], by rw [e]; exact Int32.le_trans h2 (Int32.le_of_lt hj), by omega⟩
/-- the state without function f -/
def remF (A : a_A) (f : Nat) : a_A := (aV A, aF A - 1, aD A, aC A, aP A, aVN A, fun g => if f ≤ g then aFN A (g + 1) else aFN A g, fun g => if f ≤ g then aT A (g + 1) else aT A g)
theorem remF_W {A : a_A} (h : aW A) (f : Nat) : aW (remF A f) := by
  obtain ⟨h1, h2, h3, h4, h5, h6, h7⟩ := h
  refine ⟨h1, h2, by show aF A - 1 ≤ 12; omega, fun g hg => ?_, h5, fun g hg => ?_, h7⟩
  · have hg : g < aF A - 1 := hg
    show a_per (aV A) (if f ≤ g then aT A (g + 1) else aT A g)
    split
    · exact h4 _ (by omega)
    · exact h4 _ (by omega)
  · have hg : g < aF A - 1 := hg
    show a_nm7 (if f ≤ g then aFN A (g + 1) else aFN A g)
    split
    · exact h6 _ (by omega)
    · exact h6 _ (by omega)
/-- things from p on, below m, become those s behind them -/
def a_dn {α : Type} (f : Nat → α) (p m s : Nat) : Nat → α := fun j => if p ≤ j ∧ j < m then f (j + s) else f j
theorem a_dn_0 {α : Type} (f : Nat → α) (p s : Nat) : a_dn f p p s = f := by
  funext j
  unfold a_dn
  rw [if_neg (by omega)]
theorem a_dn_s {α : Type} (f : Nat → α) {p m s : Nat} (h : p ≤ m) : mg_u (a_dn f p m s) m (f (m + s)) = a_dn f p (m + 1) s := by
  funext j
  by_cases e : j = m
  · subst e
    rw [mg_u_eq]
    unfold a_dn
    rw [if_pos (by omega)]
  · rw [mg_u_ne _ _ e]
    unfold a_dn
    by_cases h2 : p ≤ j ∧ j < m
    · rw [if_pos h2, if_pos (by omega)]
    · rw [if_neg h2, if_neg (by omega)]
theorem a_dn_at {α : Type} (f : Nat → α) {p m s : Nat} (hs : 0 < s) : a_dn f p m s (m + s) = f (m + s) := by
  unfold a_dn
  rw [if_neg (by omega)]
/-- names and tables behind function f, moved down up to cells m and n -/
def rMv (G : mg_G) (f m n : Nat) : mg_G := (mg_u G.1 149 (a_dn (G.1 149) (90 + 8 * f) m 8), mg_u G.2.1 150 (a_dn (G.2.1 150) (4 * f) n 4), G.2.2)
theorem rMv_1 (G : mg_G) (f m n : Nat) : (rMv G f m n).1 149 = a_dn (G.1 149) (90 + 8 * f) m 8 := mg_u_eq G.1 149 _
theorem rMv_2 (G : mg_G) (f m n : Nat) : (rMv G f m n).2.1 150 = a_dn (G.2.1 150) (4 * f) n 4 := mg_u_eq G.2.1 150 _
section RM
variable {scr : Nat × (Nat → Int32)} {t : List mg_S} {G : mg_G} {A : a_A} {S : a_S}
theorem r300 (d : Nat) (hI : rI G A) {l : Nat} (hl : l + 1 < aV A) : mg_m (mg_KM scr t) (d + 1) 300 [.ref 148, .int (Int32.ofNat l)] G (rST G (setD A (a_mv (aD A) l (l + 1)))) := by
  have h8 := hI.v8
  have e1 : (Int32.ofInt 2 + Int32.ofNat l) = Int32.ofNat (2 + l) := by rw [Int32.ofNat_add]; rfl
  have e2 : (Int32.ofInt 2 + Int32.ofNat l + Int32.ofInt 1) = Int32.ofNat (2 + l + 1) := by rw [e1, mg_inc]
  refine mg_me [] 60 my_300 ms_300 (Nat.le_of_ble_eq_true rfl) ?_
  repeat (first | refine ⟨_, mg_Fs rfl rfl, ?_⟩ | refine ⟨_, mg_Fd rfl rfl, ?_⟩ | refine ⟨Or.inl rfl, ?_⟩ | refine ⟨Or.inr ⟨_, rfl⟩, ?_⟩ | refine ⟨fun _ => ?_, fun h => absurd h (by decide)⟩ | refine ⟨fun h => absurd h (by decide), fun _ => ?_⟩)
  refine ⟨_, _, 2 + l, mg_Ai rfl (by decide), mg_ixE e1 (by omega), by omega, ?_⟩
  repeat (first | refine ⟨_, mg_Fs rfl rfl, ?_⟩ | refine ⟨_, mg_Fd rfl rfl, ?_⟩ | refine ⟨Or.inl rfl, ?_⟩ | refine ⟨Or.inr ⟨_, rfl⟩, ?_⟩ | refine ⟨fun _ => ?_, fun h => absurd h (by decide)⟩ | refine ⟨fun h => absurd h (by decide), fun _ => ?_⟩)
  refine ⟨_, _, 2 + l + 1, mg_Ai rfl (by decide), mg_ixE e2 (by omega), by omega, ?_⟩
  refine ⟨2232, 2 + l, rfl, mg_ixE e1 (by omega), by omega, ?_⟩
  repeat (first | refine ⟨_, mg_Fs rfl rfl, ?_⟩ | refine ⟨_, mg_Fd rfl rfl, ?_⟩ | refine ⟨Or.inl rfl, ?_⟩ | refine ⟨Or.inr ⟨_, rfl⟩, ?_⟩ | refine ⟨fun _ => ?_, fun h => absurd h (by decide)⟩ | refine ⟨fun h => absurd h (by decide), fun _ => ?_⟩)
  refine ⟨2232, 2 + l + 1, rfl, mg_ixE e2 (by omega), by omega, ?_⟩
  have ho : aO (a_mv (aD A) l (l + 1)) (aV A) := a_mv_O hI.W.2.1 (by omega) hl
  refine ⟨rfl, rfl, setD_b hI ho (fun j hj => ?_) rfl rfl (fun j hj => ?_), (r0.z ((r0.i G (k := 2 + l) _ (by omega)).tr (r0.i _ (k := 2 + l + 1) _ (by omega)))), (mg_sI_nb (mg_sI G 149 (2 + l) _) (2 + l + 1) _ (show (167 : Nat) ≠ 149 by decide)).trans (mg_sI_nb G (2 + l) _ (show (167 : Nat) ≠ 149 by decide))⟩
  · show (mg_sI (mg_sI G 149 (2 + l) _) 149 (2 + l + 1) _).1 149 j = _
    rw [mg_sI_ne _ _ _ _ (by omega), mg_sI_ne _ _ _ _ (by omega)]
  · show (mg_sI (mg_sI G 149 (2 + l) _) 149 (2 + l + 1) _).1 149 (2 + j) = Int32.ofNat (aD A (a_sg l (l + 1) j))
    by_cases h1 : j = l + 1
    · subst h1
      rw [show 2 + (l + 1) = 2 + l + 1 by omega, mg_sI_eq, show a_sg l (l + 1) (l + 1) = l from if_pos rfl]
      exact hI.o (by omega)
    · by_cases h2 : j = l
      · subst h2
        rw [mg_sI_ne _ _ _ _ (by omega), mg_sI_eq, show a_sg j (j + 1) j = j + 1 from by unfold a_sg; rw [if_neg (by omega), if_pos (by omega)]]
        exact hI.o hl
      · rw [mg_sI_ne _ _ _ _ (by omega), mg_sI_ne _ _ _ _ (by omega), show a_sg l (l + 1) j = j from by unfold a_sg; rw [if_neg h1, if_neg (by omega), if_neg (by omega)]]
        exact hI.o hj
theorem r301_3 (d : Nat) {G1 : mg_G} {f0 : Nat → Int32} (hI : rI G A) (hI1 : rI G1 A) (hX : rX G G1) (hs : ∀ p, p < aV A → G1.1 167 p = Int32.ofNat (a_sq f0 (aV A) p)) (e2 e3 : Option Value) : mg_wp (mg_KM scr t) mc_301 (d + aV A + 9) 113 [some (.ref 148), some (.int (Int32.ofNat 0)), e2, e3] [] G1 (fun o q G' => o = .inl none ∧ q = 0 ∧ rI G' (a_sfs A f0 (aV A)) ∧ rPz G G') := by
  have h8 := hI.v8
  have hW := hI.W
  refine mg_loop (aV A) (fun k L G' => L = [some (.ref 148), some (.int (Int32.ofNat k)), e2, e3] ∧ rI G' (a_sfs A f0 k) ∧ rPz G G' ∧ G'.1 167 = G1.1 167) ?_ ?_ _ _ ⟨rfl, hI1, hX.z, rfl⟩
  · rintro k L G' hk ⟨rfl, hI3, hZ, h167⟩ ih
    have eV := a_sfs_V A f0 k
    have hv : a_sq f0 (aV A) k < aV (a_sfs A f0 k) := by rw [eV]; exact a_mx_lt _ _ hW.1
    have hrd : G'.1 167 k = Int32.ofNat (a_sq f0 (aV A) k) := by rw [h167]; exact hs k hk
    have hn : G'.1 149 0 = Int32.ofNat (aV A) := by rw [← eV]; exact hI3.v
    refine mg_go [113] 60 113 ms_301 ?_
    repeat (first | refine ⟨_, mg_Fs rfl rfl, ?_⟩ | refine ⟨_, mg_Fd rfl rfl, ?_⟩ | refine ⟨Or.inl rfl, ?_⟩ | refine ⟨Or.inr ⟨_, rfl⟩, ?_⟩ | refine ⟨fun _ => ?_, fun h => absurd h (by decide)⟩ | refine ⟨fun h => absurd h (by decide), fun _ => ?_⟩)
    refine mg_cv (r178n d hn) (by omega) ?_
    refine ⟨fun h => absurd h (mg_nle (by omega) (by omega)), fun _ => ?_⟩
    repeat (first | refine ⟨_, mg_Fs rfl rfl, ?_⟩ | refine ⟨_, mg_Fd rfl rfl, ?_⟩ | refine ⟨Or.inl rfl, ?_⟩ | refine ⟨Or.inr ⟨_, rfl⟩, ?_⟩ | refine ⟨fun _ => ?_, fun h => absurd h (by decide)⟩ | refine ⟨fun h => absurd h (by decide), fun _ => ?_⟩)
    refine ⟨_, _, k, mg_Ai rfl (by decide), mg_ixN (by omega), by omega, ?_⟩
    rw [hrd]
    repeat (first | refine ⟨_, mg_Fs rfl rfl, ?_⟩ | refine ⟨_, mg_Fd rfl rfl, ?_⟩ | refine ⟨Or.inl rfl, ?_⟩ | refine ⟨Or.inr ⟨_, rfl⟩, ?_⟩ | refine ⟨fun _ => ?_, fun h => absurd h (by decide)⟩ | refine ⟨fun h => absurd h (by decide), fun _ => ?_⟩)
    refine ⟨_, _, k, mg_Ai rfl (by decide), mg_ixN (by omega), by omega, ?_⟩
    rw [hrd]
    repeat (first | refine ⟨_, mg_Fs rfl rfl, ?_⟩ | refine ⟨_, mg_Fd rfl rfl, ?_⟩ | refine ⟨Or.inl rfl, ?_⟩ | refine ⟨Or.inr ⟨_, rfl⟩, ?_⟩ | refine ⟨fun _ => ?_, fun h => absurd h (by decide)⟩ | refine ⟨fun h => absurd h (by decide), fun _ => ?_⟩)
    refine mg_m_mono (r298 d hI3 hv) (by omega) ?_
    rintro o q G2 ⟨rfl, rfl, hV⟩
    have hI4 := hV.X.I hI3
    repeat (first | refine ⟨_, mg_Fs rfl rfl, ?_⟩ | refine ⟨_, mg_Fd rfl rfl, ?_⟩ | refine ⟨Or.inl rfl, ?_⟩ | refine ⟨Or.inr ⟨_, rfl⟩, ?_⟩ | refine ⟨fun _ => ?_, fun h => absurd h (by decide)⟩ | refine ⟨fun h => absurd h (by decide), fun _ => ?_⟩)
    refine mg_m_mono (r299 d hI4 hv (a_best_lt hI3.W hv)) (by omega) ?_
    rintro o q G3 ⟨rfl, rfl, hI5, hZ5, h5⟩
    exact ih _ _ ⟨by rw [mg_inc k] <;> rfl, hI5, (hZ.tr hV.X.z).tr hZ5, (h5.trans (hV.1 167 (by omega)).1).trans h167⟩
  · rintro L G' ⟨rfl, hI3, hZ, h167⟩
    have hn : G'.1 149 0 = Int32.ofNat (aV A) := by rw [← a_sfs_V A f0 (aV A)]; exact hI3.v
    refine mg_go [113] 60 113 ms_301 ?_
    repeat (first | refine ⟨_, mg_Fs rfl rfl, ?_⟩ | refine ⟨_, mg_Fd rfl rfl, ?_⟩ | refine ⟨Or.inl rfl, ?_⟩ | refine ⟨Or.inr ⟨_, rfl⟩, ?_⟩ | refine ⟨fun _ => ?_, fun h => absurd h (by decide)⟩ | refine ⟨fun h => absurd h (by decide), fun _ => ?_⟩)
    refine mg_cv (r178n d hn) (by omega) ?_
    exact ⟨fun _ => ⟨rfl, rfl, hI3, hZ⟩, fun h => absurd h (Int32.not_lt.mpr (Int32.le_refl _))⟩
theorem r301_2 (d : Nat) {f : Nat → Int32} {k : Nat} {G1 : mg_G} (hI1 : rI G1 A) (h168 : G1.1 168 = f) (hk : k < aV A) (hp : ∃ j, j < aV A ∧ 0 ≤ f j) {Q : mg_Q} (e2 e3 : Option Value)
    (next : ∀ G2, rX G1 G2 → G2.1 168 = mg_u f (a_mx f (aV A)) (-1) → (∀ p, p ≠ k → G2.1 167 p = G1.1 167 p) → G2.1 167 k = Int32.ofNat (a_mx f (aV A)) → ∀ e2 e3, mg_wp (mg_KM scr t) mc_301 (d + aV A + 9) 34 [some (.ref 148), some (.int (Int32.ofNat (k + 1))), e2, e3] [] G2 Q) :
    mg_wp (mg_KM scr t) mc_301 (d + aV A + 9) 34 [some (.ref 148), some (.int (Int32.ofNat k)), e2, e3] [] G1 Q := by
  have h8 := hI1.v8
  rw [← mg_inc k] at next
  refine mg_go [34, 46] 60 34 ms_301 ?_
  repeat (first | refine ⟨_, mg_Fs rfl rfl, ?_⟩ | refine ⟨_, mg_Fd rfl rfl, ?_⟩ | refine ⟨Or.inl rfl, ?_⟩ | refine ⟨Or.inr ⟨_, rfl⟩, ?_⟩ | refine ⟨fun _ => ?_, fun h => absurd h (by decide)⟩ | refine ⟨fun h => absurd h (by decide), fun _ => ?_⟩)
  refine mg_cv (r178n d hI1.v) (by omega) ?_
  refine ⟨fun h => absurd h (mg_nle (by omega) (by omega)), fun _ => ?_⟩
  refine mg_loop (aV A) (fun j L G' => (∃ b, a_bst f b j ∧ L = [some (.ref 148), some (.int (Int32.ofNat k)), some (.int b), some (.int (Int32.ofNat j))]) ∧ G' = G1) ?_ ?_ _ _ ⟨⟨_, Or.inl ⟨rfl, fun i h => absurd h (Nat.not_lt_zero i)⟩, rfl⟩, rfl⟩
  · rintro j L G' hj ⟨⟨b, hb, rfl⟩, rfl⟩ ih
    refine mg_go [46] 60 46 ms_301 ?_
    repeat (first | refine ⟨_, mg_Fs rfl rfl, ?_⟩ | refine ⟨_, mg_Fd rfl rfl, ?_⟩ | refine ⟨Or.inl rfl, ?_⟩ | refine ⟨Or.inr ⟨_, rfl⟩, ?_⟩ | refine ⟨fun _ => ?_, fun h => absurd h (by decide)⟩ | refine ⟨fun h => absurd h (by decide), fun _ => ?_⟩)
    refine mg_cv (r178n d hI1.v) (by omega) ?_
    refine ⟨fun h => absurd h (mg_nle (by omega) (by omega)), fun _ => ?_⟩
    repeat (first | refine ⟨_, mg_Fs rfl rfl, ?_⟩ | refine ⟨_, mg_Fd rfl rfl, ?_⟩ | refine ⟨Or.inl rfl, ?_⟩ | refine ⟨Or.inr ⟨_, rfl⟩, ?_⟩ | refine ⟨fun _ => ?_, fun h => absurd h (by decide)⟩ | refine ⟨fun h => absurd h (by decide), fun _ => ?_⟩)
    refine ⟨_, _, j, mg_Ai rfl (by decide), mg_ixN (by omega), by omega, ?_⟩
    rw [h168]
    refine ⟨fun h => ih _ _ ⟨⟨b, a_bst_neg hb h, by rw [mg_inc j]⟩, rfl⟩, fun h => ?_⟩
    rcases hb with ⟨rfl, h2⟩ | ⟨rfl, h2, h3⟩
    · exact ⟨fun _ => ih _ _ ⟨⟨_, a_bst_new h2 h, by rw [mg_inc j]⟩, rfl⟩, fun q => absurd rfl q⟩
    · have hm := a_mx_lt f j h3
      refine ⟨fun q => absurd q (mg_n1 (by omega)), fun _ => ?_⟩
      repeat (first | refine ⟨_, mg_Fs rfl rfl, ?_⟩ | refine ⟨_, mg_Fd rfl rfl, ?_⟩ | refine ⟨Or.inl rfl, ?_⟩ | refine ⟨Or.inr ⟨_, rfl⟩, ?_⟩ | refine ⟨fun _ => ?_, fun h => absurd h (by decide)⟩ | refine ⟨fun h => absurd h (by decide), fun _ => ?_⟩)
      refine ⟨_, _, j, mg_Ai rfl (by decide), mg_ixN (by omega), by omega, ?_⟩
      repeat (first | refine ⟨_, mg_Fs rfl rfl, ?_⟩ | refine ⟨_, mg_Fd rfl rfl, ?_⟩ | refine ⟨Or.inl rfl, ?_⟩ | refine ⟨Or.inr ⟨_, rfl⟩, ?_⟩ | refine ⟨fun _ => ?_, fun h => absurd h (by decide)⟩ | refine ⟨fun h => absurd h (by decide), fun _ => ?_⟩)
      refine ⟨_, _, a_mx f j, mg_Ai rfl (by decide), mg_ixN (by omega), by omega, ?_⟩
      rw [h168]
      exact ⟨fun q => ih _ _ ⟨⟨_, a_bst_le rfl h2 q, by rw [mg_inc j]⟩, rfl⟩, fun q => ih _ _ ⟨⟨_, a_bst_gt h2 q, by rw [mg_inc j]⟩, rfl⟩⟩
  · rintro L G' ⟨⟨b, hb, rfl⟩, rfl⟩
    have hb2 : b = Int32.ofNat (a_mx f (aV A)) := by
      rcases hb with ⟨h1, h2⟩ | ⟨h1, -, -⟩
      · obtain ⟨j, h3, h4⟩ := hp
        exact absurd (h2 j h3) (Int32.not_lt.mpr h4)
      · exact h1
    subst hb2
    have hm := a_mx_lt f (aV A) (by omega)
    refine mg_go [46, 34] 60 46 ms_301 ?_
    repeat (first | refine ⟨_, mg_Fs rfl rfl, ?_⟩ | refine ⟨_, mg_Fd rfl rfl, ?_⟩ | refine ⟨Or.inl rfl, ?_⟩ | refine ⟨Or.inr ⟨_, rfl⟩, ?_⟩ | refine ⟨fun _ => ?_, fun h => absurd h (by decide)⟩ | refine ⟨fun h => absurd h (by decide), fun _ => ?_⟩)
    refine mg_cv (r178n d hI1.v) (by omega) ?_
    refine ⟨fun _ => ?_, fun h => absurd h (Int32.not_lt.mpr (Int32.le_refl _))⟩
    repeat (first | refine ⟨_, mg_Fs rfl rfl, ?_⟩ | refine ⟨_, mg_Fd rfl rfl, ?_⟩ | refine ⟨Or.inl rfl, ?_⟩ | refine ⟨Or.inr ⟨_, rfl⟩, ?_⟩ | refine ⟨fun _ => ?_, fun h => absurd h (by decide)⟩ | refine ⟨fun h => absurd h (by decide), fun _ => ?_⟩)
    refine ⟨8, k, rfl, mg_ixN (by omega), by omega, ?_⟩
    repeat (first | refine ⟨_, mg_Fs rfl rfl, ?_⟩ | refine ⟨_, mg_Fd rfl rfl, ?_⟩ | refine ⟨Or.inl rfl, ?_⟩ | refine ⟨Or.inr ⟨_, rfl⟩, ?_⟩ | refine ⟨fun _ => ?_, fun h => absurd h (by decide)⟩ | refine ⟨fun h => absurd h (by decide), fun _ => ?_⟩)
    refine ⟨8, a_mx f (aV A), rfl, mg_ixN (by omega), by omega, ?_⟩
    refine next _ (((rX.rf _).i (z := 167) (k := k) (Int32.ofNat (a_mx f (aV A))) (by decide)).i (z := 168) (k := a_mx f (aV A)) _ (by decide)) ?_ (fun p hp => ?_) ?_ _ _
    · show mg_u2 (mg_u2 G'.1 167 k (Int32.ofNat (a_mx f (aV A)))) 168 (a_mx f (aV A)) (Int32.ofInt (-1)) 168 = _
      rw [mg_u2_same, mg_u2_ne _ _ _ (show (168 : Nat) ≠ 167 by decide), h168]
      rfl
    · show mg_u2 (mg_u2 G'.1 167 k (Int32.ofNat (a_mx f (aV A)))) 168 (a_mx f (aV A)) (Int32.ofInt (-1)) 167 p = _
      rw [mg_u2_ne _ _ _ (show (167 : Nat) ≠ 168 by decide), mg_u2_same, mg_u_ne _ _ hp]
    · show mg_u2 (mg_u2 G'.1 167 k (Int32.ofNat (a_mx f (aV A)))) 168 (a_mx f (aV A)) (Int32.ofInt (-1)) 167 k = _
      rw [mg_u2_ne _ _ _ (show (167 : Nat) ≠ 168 by decide), mg_u2_same, mg_u_eq]
theorem r301 (d : Nat) (hI : rI G A) : mg_m (mg_KM scr t) (d + aV A + 10) 301 [.ref 148] G (fun o q G' => o = .inl none ∧ q = 0 ∧ rI G' (a_sfa A) ∧ rPz G G') := by
  have h8 := hI.v8
  have hW := hI.W
  refine mg_me [7, 34] 60 my_301 ms_301 (Nat.le_of_ble_eq_true rfl) ?_
  repeat (first | refine ⟨_, mg_Fs rfl rfl, ?_⟩ | refine ⟨_, mg_Fd rfl rfl, ?_⟩ | refine ⟨Or.inl rfl, ?_⟩ | refine ⟨Or.inr ⟨_, rfl⟩, ?_⟩ | refine ⟨fun _ => ?_, fun h => absurd h (by decide)⟩ | refine ⟨fun h => absurd h (by decide), fun _ => ?_⟩)
  refine mg_m_mono (r201A d hI) (by omega) ?_
  rintro o q G1 ⟨rfl, rfl, hX, hgr, hg, hr, -⟩
  repeat (first | refine ⟨_, mg_Fs rfl rfl, ?_⟩ | refine ⟨_, mg_Fd rfl rfl, ?_⟩ | refine ⟨Or.inl rfl, ?_⟩ | refine ⟨Or.inr ⟨_, rfl⟩, ?_⟩ | refine ⟨fun _ => ?_, fun h => absurd h (by decide)⟩ | refine ⟨fun h => absurd h (by decide), fun _ => ?_⟩)
  refine mg_loop (aV A) (fun k L G' => L = [some (.ref 148), some (.int (Int32.ofNat k)), none, none] ∧ ∃ f', G' = gM G1 168 f' ∧ ∀ p, p < k → f' p = a_ts A p) ?_ ?_ _ _ ⟨rfl, G1.1 168, by show G1 = (mg_u G1.1 168 (G1.1 168), G1.2); rw [mg_u_id], fun p h => absurd h (Nat.not_lt_zero p)⟩
  · rintro k L G' hk ⟨rfl, f', rfl, hf'⟩ ih
    have hI3 : rI (gM G1 168 f') A := (hX.u f' (by decide)).I hI
    refine mg_go [7] 60 7 ms_301 ?_
    repeat (first | refine ⟨_, mg_Fs rfl rfl, ?_⟩ | refine ⟨_, mg_Fd rfl rfl, ?_⟩ | refine ⟨Or.inl rfl, ?_⟩ | refine ⟨Or.inr ⟨_, rfl⟩, ?_⟩ | refine ⟨fun _ => ?_, fun h => absurd h (by decide)⟩ | refine ⟨fun h => absurd h (by decide), fun _ => ?_⟩)
    refine mg_cv (r178n d hI3.v) (by omega) ?_
    refine ⟨fun h => absurd h (mg_nle (by omega) (by omega)), fun _ => ?_⟩
    repeat (first | refine ⟨_, mg_Fs rfl rfl, ?_⟩ | refine ⟨_, mg_Fd rfl rfl, ?_⟩ | refine ⟨Or.inl rfl, ?_⟩ | refine ⟨Or.inr ⟨_, rfl⟩, ?_⟩ | refine ⟨fun _ => ?_, fun h => absurd h (by decide)⟩ | refine ⟨fun h => absurd h (by decide), fun _ => ?_⟩)
    refine mg_cv (r257A d (hgr.u f' (by decide)) hg hW.o8 (show k < 8 by omega)) (by omega) ?_
    refine ⟨8, k, rfl, mg_ixN (by omega), by omega, ih _ _ ⟨by rw [mg_inc k], _, gM_u G1 168 k f' _, fun p hp => ?_⟩⟩
    by_cases e : p = k
    · rw [e, mg_u_eq]
    · rw [mg_u_ne _ _ e]
      exact hf' p (by omega)
  · rintro L G' ⟨rfl, f', rfl, hf'⟩
    have hI3 : rI (gM G1 168 f') A := (hX.u f' (by decide)).I hI
    have hX3 : rX G (gM G1 168 f') := hX.u f' (by decide)
    have hf0 : ∀ j, j < aV A → 0 ≤ f' j := fun j hj => by rw [hf' j hj]; exact a_ts_0 A hW.gN j
    have e168 : (gM G1 168 f').1 168 = f' := gM_eq _ _ _
    refine mg_go [34] 60 7 ms_301 ?_
    repeat (first | refine ⟨_, mg_Fs rfl rfl, ?_⟩ | refine ⟨_, mg_Fd rfl rfl, ?_⟩ | refine ⟨Or.inl rfl, ?_⟩ | refine ⟨Or.inr ⟨_, rfl⟩, ?_⟩ | refine ⟨fun _ => ?_, fun h => absurd h (by decide)⟩ | refine ⟨fun h => absurd h (by decide), fun _ => ?_⟩)
    refine mg_cv (r178n d hI3.v) (by omega) ?_
    refine ⟨fun _ => ?_, fun h => absurd h (Int32.not_lt.mpr (Int32.le_refl _))⟩
    refine mg_loop (aV A) (fun k L G' => (∃ e2 e3, L = [some (.ref 148), some (.int (Int32.ofNat k)), e2, e3]) ∧ rX G G' ∧ G'.1 168 = a_tst f' (aV A) k ∧ ∀ p, p < k → G'.1 167 p = Int32.ofNat (a_sq f' (aV A) p)) ?_ ?_ _ _ ⟨⟨none, none, rfl⟩, hX3, e168, fun p h => absurd h (Nat.not_lt_zero p)⟩
    · rintro k L G' hk ⟨⟨e2, e3, rfl⟩, hX4, h168, hs⟩ ih
      refine r301_2 d (hX4.I hI) h168 hk ⟨_, a_mx_lt _ _ hW.1, a_tst_mx hf0 hk⟩ e2 e3 (fun G2 hX5 e5 hne hk5 e2 e3 => ih _ _ ⟨⟨e2, e3, rfl⟩, hX4.tr hX5, e5, fun p hp => ?_⟩)
      by_cases e : p = k
      · rw [e]; exact hk5
      · rw [hne p e]
        exact hs p (by omega)
    · rintro L G' ⟨⟨e2, e3, rfl⟩, hX4, h168, hs⟩
      refine mg_go [113] 60 34 ms_301 ?_
      repeat (first | refine ⟨_, mg_Fs rfl rfl, ?_⟩ | refine ⟨_, mg_Fd rfl rfl, ?_⟩ | refine ⟨Or.inl rfl, ?_⟩ | refine ⟨Or.inr ⟨_, rfl⟩, ?_⟩ | refine ⟨fun _ => ?_, fun h => absurd h (by decide)⟩ | refine ⟨fun h => absurd h (by decide), fun _ => ?_⟩)
      refine mg_cv (r178n d (hX4.I hI).v) (by omega) ?_
      refine ⟨fun _ => ?_, fun h => absurd h (Int32.not_lt.mpr (Int32.le_refl _))⟩
      have := r301_3 (scr := scr) (t := t) d hI (hX4.I hI) hX4 hs e2 e3
      rw [a_sfs_c hf'] at this
      exact this
theorem r313 (d : Nat) (hI : rI G A) {f : Nat} (hf : f < aF A) : mg_m (mg_KM scr t) (d + 2) 313 [.ref 148, .int (Int32.ofNat f)] G (fun o q G' => o = .inl none ∧ q = 0 ∧ rI G' (remF A f) ∧ rPz G G') := by
  have h12 := hI.f12
  have h8 := hI.v8
  have hM1 : ∀ m n, 90 ≤ 90 + 8 * f → (rMv G f m n).1 149 1 = Int32.ofNat (aF A) := fun m n _ => by
    rw [rMv_1]
    unfold a_dn
    rw [if_neg (by omega)]
    exact hI.f
  have e8 : ∀ a b : Nat, (Int8.ofInt 90).toInt32 + (Int8.ofInt 8).toInt32 * Int32.ofNat a + Int32.ofNat b = Int32.ofNat (90 + 8 * a + b) := fun a b => by rw [Int32.ofNat_add, Int32.ofNat_add, Int32.ofNat_mul]; rfl
  have e9 : ∀ a b : Nat, (Int8.ofInt 90).toInt32 + (Int8.ofInt 8).toInt32 * Int32.ofNat a + (Int8.ofInt 8).toInt32 + Int32.ofNat b = Int32.ofNat (90 + 8 * a + b + 8) := fun a b => by
    rw [show 90 + 8 * a + b + 8 = 90 + 8 * a + 8 + b by omega, Int32.ofNat_add, Int32.ofNat_add, Int32.ofNat_add, Int32.ofNat_mul]; rfl
  have e5 : ∀ a b : Nat, Int32.ofInt 4 * Int32.ofNat a + Int32.ofInt 4 + Int32.ofNat b = Int32.ofNat (4 * a + b + 4) := fun a b => by
    rw [show 4 * a + b + 4 = 4 * a + 4 + b by omega, Int32.ofNat_add, Int32.ofNat_add, Int32.ofNat_mul]; rfl
  refine mg_me [2] 60 my_313 ms_313 (Nat.le_of_ble_eq_true rfl) ?_
  refine mg_loop (aF A - 1 - f) (fun k L G' => (∃ e3, L = [some (.ref 148), some (.int (Int32.ofNat f)), some (.int (Int32.ofNat (f + k))), e3]) ∧ G' = rMv G f (90 + 8 * (f + k)) (4 * (f + k))) ?_ ?_ _ _ ⟨⟨none, rfl⟩, ?_⟩
  · rintro k L G' hk ⟨⟨e3, rfl⟩, rfl⟩ ih
    refine mg_go [14] 60 2 ms_313 ?_
    repeat (first | refine ⟨_, mg_Fs rfl rfl, ?_⟩ | refine ⟨_, mg_Fd rfl rfl, ?_⟩ | refine ⟨Or.inl rfl, ?_⟩ | refine ⟨Or.inr ⟨_, rfl⟩, ?_⟩ | refine ⟨fun _ => ?_, fun h => absurd h (by decide)⟩ | refine ⟨fun h => absurd h (by decide), fun _ => ?_⟩)
    refine mg_cv (r179n d (hM1 _ _ (by omega))) (by omega) ?_
    refine ⟨fun h => absurd h (by show ¬ Int32.ofNat (aF A) ≤ Int32.ofNat (f + k) + Int32.ofInt 1; rw [mg_inc]; exact mg_nle (by omega) (by omega)), fun _ => ?_⟩
    refine mg_loop 8 (fun j L G' => L = [some (.ref 148), some (.int (Int32.ofNat f)), some (.int (Int32.ofNat (f + k))), some (.int (Int32.ofNat j))] ∧ G' = rMv G f (90 + 8 * (f + k) + j) (4 * (f + k))) ?_ ?_ _ _ ⟨rfl, rfl⟩
    · rintro j L G' hj ⟨rfl, rfl⟩ ih2
      have hrd : (rMv G f (90 + 8 * (f + k) + j) (4 * (f + k))).1 149 (90 + 8 * (f + k) + j + 8) = G.1 149 (90 + 8 * (f + k) + j + 8) := by
        rw [rMv_1, a_dn_at _ (by decide)]
      refine mg_go [14] 60 14 ms_313 ?_
      refine ⟨fun h => absurd h (mg_nle (b := 8) hj (by decide)), fun _ => ?_⟩
      repeat (first | refine ⟨_, mg_Fs rfl rfl, ?_⟩ | refine ⟨_, mg_Fd rfl rfl, ?_⟩ | refine ⟨Or.inl rfl, ?_⟩ | refine ⟨Or.inr ⟨_, rfl⟩, ?_⟩ | refine ⟨fun _ => ?_, fun h => absurd h (by decide)⟩ | refine ⟨fun h => absurd h (by decide), fun _ => ?_⟩)
      refine ⟨_, _, 90 + 8 * (f + k) + j + 8, mg_Ai rfl (by decide), mg_ixE (e9 _ _) (by omega), by omega, ?_⟩
      refine ⟨2232, 90 + 8 * (f + k) + j, rfl, mg_ixE (e8 _ _) (by omega), by omega, ih2 _ _ ⟨by rw [mg_inc j], ?_⟩⟩
      rw [hrd]
      exact (congrArg (fun x => (x, (rMv G f (90 + 8 * (f + k) + j) (4 * (f + k))).2)) (mg_u2_u G.1 149 _ _ _)).trans (congrArg (fun x => (mg_u G.1 149 x, (rMv G f (90 + 8 * (f + k) + j) (4 * (f + k))).2)) (a_dn_s _ (by omega)))
    · rintro L G' ⟨rfl, rfl⟩
      refine mg_go [59] 60 14 ms_313 ?_
      refine ⟨fun _ => ?_, fun h => absurd h (by decide)⟩
      refine mg_loop 4 (fun j L G' => L = [some (.ref 148), some (.int (Int32.ofNat f)), some (.int (Int32.ofNat (f + k))), some (.int (Int32.ofNat j))] ∧ G' = rMv G f (90 + 8 * (f + k) + 8) (4 * (f + k) + j)) ?_ ?_ _ _ ⟨rfl, rfl⟩
      · rintro j L G' hj ⟨rfl, rfl⟩ ih2
        have hrd : (rMv G f (90 + 8 * (f + k) + 8) (4 * (f + k) + j)).2.1 150 (4 * (f + k) + j + 4) = G.2.1 150 (4 * (f + k) + j + 4) := by
          rw [rMv_2, a_dn_at _ (by decide)]
        refine mg_go [59] 60 59 ms_313 ?_
        refine ⟨fun h => absurd h (mg_nle (b := 4) hj (by decide)), fun _ => ?_⟩
        repeat (first | refine ⟨_, mg_Fs rfl rfl, ?_⟩ | refine ⟨_, mg_Fd rfl rfl, ?_⟩ | refine ⟨Or.inl rfl, ?_⟩ | refine ⟨Or.inr ⟨_, rfl⟩, ?_⟩ | refine ⟨fun _ => ?_, fun h => absurd h (by decide)⟩ | refine ⟨fun h => absurd h (by decide), fun _ => ?_⟩)
        refine ⟨_, _, 4 * (f + k) + j + 4, mg_Al rfl (by decide), mg_ixE (e5 _ _) (by omega), by omega, ?_⟩
        refine ⟨576, 4 * (f + k) + j, rfl, mg_ixE (mg_4a _ _) (by omega), by omega, ih2 _ _ ⟨by rw [mg_inc j], ?_⟩⟩
        rw [hrd]
        exact (congrArg (fun x => ((rMv G f (90 + 8 * (f + k) + 8) (4 * (f + k) + j)).1, x, G.2.2)) (mg_u2_u G.2.1 150 _ _ _)).trans (congrArg (fun x => ((rMv G f (90 + 8 * (f + k) + 8) (4 * (f + k) + j)).1, mg_u G.2.1 150 x, G.2.2)) (a_dn_s _ (by omega)))
      · rintro L G' ⟨rfl, rfl⟩
        refine mg_go [2] 60 59 ms_313 ?_
        refine ⟨fun _ => ?_, fun h => absurd h (by decide)⟩
        refine ih _ _ ⟨⟨_, by rw [mg_inc (f + k)]; rfl⟩, ?_⟩
        rw [show 90 + 8 * (f + k) + 8 = 90 + 8 * (f + (k + 1)) by omega, show 4 * (f + k) + 4 = 4 * (f + (k + 1)) by omega]
  · rintro L G' ⟨⟨e3, rfl⟩, rfl⟩
    rw [show f + (aF A - 1 - f) = aF A - 1 by omega]
    refine mg_go [] 60 2 ms_313 ?_
    repeat (first | refine ⟨_, mg_Fs rfl rfl, ?_⟩ | refine ⟨_, mg_Fd rfl rfl, ?_⟩ | refine ⟨Or.inl rfl, ?_⟩ | refine ⟨Or.inr ⟨_, rfl⟩, ?_⟩ | refine ⟨fun _ => ?_, fun h => absurd h (by decide)⟩ | refine ⟨fun h => absurd h (by decide), fun _ => ?_⟩)
    refine mg_cv (r179n d (hM1 _ _ (by omega))) (by omega) ?_
    refine ⟨fun _ => ?_, fun h => absurd h (by show ¬ Int32.ofNat (aF A - 1) + Int32.ofInt 1 < Int32.ofNat (aF A); rw [mg_inc]; exact mg_nlt (by omega) (by omega))⟩
    repeat (first | refine ⟨_, mg_Fs rfl rfl, ?_⟩ | refine ⟨_, mg_Fd rfl rfl, ?_⟩ | refine ⟨Or.inl rfl, ?_⟩ | refine ⟨Or.inr ⟨_, rfl⟩, ?_⟩ | refine ⟨fun _ => ?_, fun h => absurd h (by decide)⟩ | refine ⟨fun h => absurd h (by decide), fun _ => ?_⟩)
    refine ⟨2232, _, 1, mg_Ai rfl (by decide), ⟨by decide, by decide⟩, by decide, ?_⟩
    refine ⟨2232, 1, rfl, ⟨by decide, by decide⟩, by decide, rfl, rfl, ?_, ?_⟩
    · have lo : ∀ j, j ≠ 1 → j < 90 + 8 * f → (mg_sI (rMv G f (90 + 8 * (aF A - 1)) (4 * (aF A - 1))) 149 1 ((rMv G f (90 + 8 * (aF A - 1)) (4 * (aF A - 1))).1 149 1 - Int32.ofInt 1)).1 149 j = G.1 149 j := fun j h1 h2 => by
        rw [mg_sI_ne _ _ _ _ h1]
        rw [rMv_1]
        unfold a_dn
        rw [if_neg (by omega)]
      have hi : ∀ j, 90 + 8 * f ≤ j → j < 90 + 8 * (aF A - 1) → (mg_sI (rMv G f (90 + 8 * (aF A - 1)) (4 * (aF A - 1))) 149 1 ((rMv G f (90 + 8 * (aF A - 1)) (4 * (aF A - 1))).1 149 1 - Int32.ofInt 1)).1 149 j = G.1 149 (j + 8) := fun j h1 h2 => by
        rw [mg_sI_ne _ _ _ _ (by omega)]
        rw [rMv_1]
        unfold a_dn
        rw [if_pos (by omega)]
      refine ⟨hI.1, bA0 ?_ ?_ ?_ ?_ ?_ ?_ ?_ ?_, remF_W hI.W f⟩
      · exact (lo 0 (by decide) (by omega)).trans hI.v
      · refine (mg_sI_eq _ _ _ _).trans ?_
        rw [hM1 _ _ (by omega)]
        obtain ⟨n, hn⟩ : ∃ n, aF A = n + 1 := ⟨aF A - 1, by omega⟩
        show Int32.ofNat (aF A) - 1 = Int32.ofNat (aF A - 1)
        rw [hn]
        exact mg_dec n
      · exact fun j hj => by have hj : j < aV A := hj; exact (lo _ (by omega) (by omega)).trans (hI.o hj)
      · exact fun j hj => by have hj : j < aV A := hj; exact (lo _ (by omega) (by omega)).trans (hI.c hj)
      · exact fun j hj => by have hj : j < aV A := hj; exact (lo _ (by omega) (by omega)).trans (hI.p hj)
      · intro j hj
        have hj : j < aV A := hj
        have hl := (hI.W.2.2.2.2.1 j hj).1.2
        exact ⟨(lo _ (by omega) (by omega)).trans (hI.vn hj).1, fun i c hc => by
          have hc : (aVN A j)[i]? = some c := hc
          have := (List.getElem?_eq_some_iff.mp hc).1
          exact (lo _ (by omega) (by omega)).trans ((hI.vn hj).2 i c hc)⟩
      · intro j hj
        have hj : j < aF A - 1 := hj
        show rNm _ _ (if f ≤ j then aFN A (j + 1) else aFN A j)
        split
        · have hl := (hI.W.2.2.2.2.2.1 (j + 1) (by omega)).2
          have hn := hI.fn (j := j + 1) (by omega)
          refine ⟨(hi _ (by omega) (by omega)).trans ?_, fun i c hc => (hi _ (by omega) ?_).trans ?_⟩
          · rw [show 90 + 8 * j + 8 = 90 + 8 * (j + 1) by omega]
            exact hn.1
          · have := (List.getElem?_eq_some_iff.mp hc).1
            omega
          · rw [show 90 + 8 * j + 1 + i + 8 = 90 + 8 * (j + 1) + 1 + i by omega]
            exact hn.2 i c hc
        · have hl := (hI.W.2.2.2.2.2.1 j (by omega)).2
          have hn := hI.fn (j := j) (by omega)
          refine ⟨(lo _ (by omega) (by omega)).trans hn.1, fun i c hc => ?_⟩
          have := (List.getElem?_eq_some_iff.mp hc).1
          exact (lo _ (by omega) (by omega)).trans (hn.2 i c hc)
      · intro j hj
        have hj : j < aF A - 1 := hj
        have tr : ∀ w, w < 4 → mg_u G.2.1 150 (a_dn (G.2.1 150) (4 * f) (4 * (aF A - 1)) 4) 150 (4 * j + w) = if f ≤ j then G.2.1 150 (4 * (j + 1) + w) else G.2.1 150 (4 * j + w) := fun w hw => by
          rw [mg_u_eq]
          unfold a_dn
          split
          · rw [if_pos (by omega), show 4 * j + w + 4 = 4 * (j + 1) + w by omega]
          · rw [if_neg (by omega)]
        show ((mg_u G.2.1 150 (a_dn (G.2.1 150) (4 * f) (4 * (aF A - 1)) 4) 150 (4 * j + 0), mg_u G.2.1 150 (a_dn (G.2.1 150) (4 * f) (4 * (aF A - 1)) 4) 150 (4 * j + 1), mg_u G.2.1 150 (a_dn (G.2.1 150) (4 * f) (4 * (aF A - 1)) 4) 150 (4 * j + 2), mg_u G.2.1 150 (a_dn (G.2.1 150) (4 * f) (4 * (aF A - 1)) 4) 150 (4 * j + 3)) : a_T) = if f ≤ j then aT A (j + 1) else aT A j
        rw [tr 0 (by decide), tr 1 (by decide), tr 2 (by decide), tr 3 (by decide)]
        split
        · exact hI.t (j := j + 1) (by omega)
        · exact hI.t (j := j) (by omega)
    · refine r0.z ⟨⟨fun b hb => (mg_sI_nb (rMv G f _ _) 1 _ hb).trans (mg_u_ne G.1 _ hb), fun b hb => mg_u_ne G.2.1 _ hb, rfl, rfl, fun _ _ _ => rfl⟩, fun j hj => ?_, fun j hj => ?_, rfl⟩
      · refine (mg_sI_ne _ _ _ _ (show j ≠ 1 by omega)).trans ?_
        rw [rMv_1]
        unfold a_dn
        rw [if_neg (by omega)]
      · show (rMv G f (90 + 8 * (aF A - 1)) (4 * (aF A - 1))).2.1 150 j = _
        rw [rMv_2]
        unfold a_dn
        rw [if_neg (by omega)]
  · show G = rMv G f (90 + 8 * (f + 0)) (4 * (f + 0))
    show G = (mg_u G.1 149 (a_dn (G.1 149) (90 + 8 * f) (90 + 8 * (f + 0)) 8), mg_u G.2.1 150 (a_dn (G.2.1 150) (4 * f) (4 * (f + 0)) 4), G.2.2)
    rw [Nat.add_zero, a_dn_0, a_dn_0, mg_u_id, mg_u_id]
end RM
