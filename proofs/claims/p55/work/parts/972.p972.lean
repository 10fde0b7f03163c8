/-! THE LAW'S TABLES: Truth at 148, its numbers at 149 (now), 150 (kept), 151 (how many were kept) -/
def shT (n : Nat) : List mg_S := [.inr (10, [some (.int (Int32.ofNat n)), some (.long (tt_M n)), some (.ref 149), none, some (.ref 150), some (.ref 151), none]), .inl (1, 12), .inl (1, 96), .inl (0, 8)]
abbrev mg_KT (scr : Nat × (Nat → Int32)) (n : Nat) (t : List mg_S) : mg_K := (scr, shC ++ (shT n ++ t))
theorem tz_2n {n : Nat} (h : tt_n n) : Int32.ofInt 1 <<< (Int32.ofNat n &&& 31) = Int32.ofNat (2 ^ n) := by rcases h with rfl | rfl | rfl <;> decide +kernel
theorem tz_ge {n k : Nat} (h : tt_n n) (hk : k < 2 ^ n) : ¬ Int32.ofInt 1 <<< (Int32.ofNat n &&& 31) ≤ Int32.ofNat k := by
  have hp := tt_pw h
  rw [tz_2n h]
  exact mg_nle hk (by omega)
theorem tz_lt {n : Nat} (h : tt_n n) : ¬ Int32.ofNat (2 ^ n) < Int32.ofInt 1 <<< (Int32.ofNat n &&& 31) := by
  rw [tz_2n h]
  exact Int32.lt_irrefl
theorem mg_wp_L {K : mg_K} {c : mm_Code} {d pc : Nat} {L L' : mm_L} {S : List Value} {G : mg_G} {Q : mg_Q} (h : mg_wp K c d pc L' S G Q) (e : L = L') : mg_wp K c d pc L S G Q := e ▸ h
theorem mg_wp_S {K : mg_K} {c : mm_Code} {d pc : Nat} {L : mm_L} {S S' : List Value} {G : mg_G} {Q : mg_Q} (h : mg_wp K c d pc L S' G Q) (e : S = S') : mg_wp K c d pc L S G Q := e ▸ h
section TR
variable {scr : Nat × (Nat → Int32)} {t : List mg_S} {G : mg_G} {n : Nat}
theorem t178 (d : Nat) (hn : tt_n n) {v : Nat} (hv : v < n) (T : a_T) (b : Bool) : mg_m (mg_KT scr n t) (d + 1) 178 [.ref 148, .long (tt n T), .int (Int32.ofNat v), .int (Int32.ofNat (if b then 1 else 0))] G (mg_v (.long (tt n (a_cf T v b))) G) := by
  have hp := tt_pw hn
  have hn6 : n < 6 := by unfold tt_n at hn; omega
  refine mg_me [6] 40 my_178 ms_178 (Nat.le_of_ble_eq_true rfl) ?_
  refine mg_loop (2 ^ n) (fun k L G' => (∃ y, tz_B y (fun k => (tt n T).toBitVec.getLsbD (a_sb k v b)) k ∧ L = [some (.ref 148), some (.long (tt n T)), none, some (.int (Int32.ofNat v)), some (.int (Int32.ofNat (if b then 1 else 0))), some (.long y), none, some (.int (Int32.ofNat k))]) ∧ G' = G) ?_ ?_ _ _ ⟨⟨0, tz_0 _, rfl⟩, rfl⟩
  · rintro k L G' hk ⟨⟨y, hy, rfl⟩, rfl⟩ ih
    refine mg_go [6] 60 6 ms_178 ?_
    refine ⟨_, mg_Fs rfl rfl, ?_⟩
    refine ⟨fun h => absurd h (tz_ge hn hk), fun _ => ?_⟩
    refine ih _ _ ⟨⟨_, tz_s hy (by omega), ?_⟩, rfl⟩
    have e : (Int32.ofNat k &&& ((Int32.ofInt 1 <<< (Int32.ofNat v &&& 31)) ^^^ Int32.ofInt (-1)) ||| (Int32.ofNat (if b then 1 else 0) <<< (Int32.ofNat v &&& 31))) = Int32.ofNat (a_sb k v b) := by
      cases b
      · exact (tz_ix v (by omega) k (by omega)).1
      · exact (tz_ix v (by omega) k (by omega)).2
    have hs : a_sb k v b < 64 := by
      have h2 := tz_sb n hn6 v hv k hk
      cases b
      · have := h2.1; omega
      · have := h2.2; omega
    rw [← tz_rd _ hs, ← tz_ct _ hs, ← e, ← mg_inc k]
    rfl
  · rintro L G' ⟨⟨y, hy, rfl⟩, rfl⟩
    refine mg_go [] 60 6 ms_178 ?_
    refine ⟨_, mg_Fs rfl rfl, ?_⟩
    refine ⟨fun _ => ?_, fun h => absurd h (tz_lt hn)⟩
    exact ⟨by rw [tz_w hn hv T b hy], rfl, rfl⟩
/-- what is there but for the law's tables -/
abbrev tFr (G G' : mg_G) : Prop := mg_fr (fun b => b = 148 ∨ b = 149 ∨ b = 150 ∨ b = 151) G G'
end TR
/-- the law's tables hold those of A, and those of the latest changes -/
def tR (n : Nat) (G : mg_G) (A : a_A) (U : List a_A) : Prop := G.2.2.2.2 148 3 = .int (Int32.ofNat (aF A)) ∧ aF A ≤ 12 ∧ G.2.2.2.2 148 6 = .int (Int32.ofNat U.length) ∧ U.length ≤ 8 ∧ (∀ f, f < aF A → G.2.1 149 f = tt n (aT A f)) ∧ ∀ i B, U[i]? = some B → aF B ≤ 12 ∧ G.1 151 i = Int32.ofNat (aF B) ∧ ∀ f, f < aF B → G.2.1 150 (12 * i + f) = tt n (aT B f)
theorem tR.fr {n : Nat} {G G' : mg_G} {A : a_A} {U : List a_A} {p : Nat → Prop} (h : tR n G A U) (hf : mg_fr p G G') (hp : ∀ a, a = 148 ∨ a = 149 ∨ a = 150 ∨ a = 151 → ¬ p a) : tR n G' A U := by
  obtain ⟨h1, h2, h3, h4, h5, h6⟩ := h
  have e8 := (hf 148 (hp 148 (by omega))).2.2.2.2
  have e9 := (hf 149 (hp 149 (by omega))).2.1
  have e0 := (hf 150 (hp 150 (by omega))).2.1
  have e1 := (hf 151 (hp 151 (by omega))).1
  exact ⟨(congrFun e8 3).trans h1, h2, (congrFun e8 6).trans h3, h4, fun f hf => (congrFun e9 f).trans (h5 f hf), fun i B hi => ⟨(h6 i B hi).1, (congrFun e1 i).trans (h6 i B hi).2.1, fun f hf => (congrFun e0 _).trans ((h6 i B hi).2.2 f hf)⟩⟩
theorem tz_12 (c k : Nat) : (Int8.ofInt 12).toInt32 * Int32.ofNat c + Int32.ofNat k = Int32.ofNat (12 * c + k) := by
  rw [show (Int8.ofInt 12).toInt32 = Int32.ofNat 12 from by decide, ← Int32.ofNat_mul, ← Int32.ofNat_add]
theorem tz_p12 (k : Nat) : Int32.ofNat k + (Int8.ofInt 12).toInt32 = Int32.ofNat (k + 12) := by
  rw [show (Int8.ofInt 12).toInt32 = Int32.ofNat 12 from by decide, ← Int32.ofNat_add]
/-- only the long array at b was written -/
def tJ (b : Nat) (G G' : mg_G) : Prop := G'.1 = G.1 ∧ (∀ a, a ≠ b → G'.2.1 a = G.2.1 a) ∧ G'.2.2 = G.2.2
theorem tJ.rf (b : Nat) (G : mg_G) : tJ b G G := ⟨rfl, fun _ _ => rfl, rfl⟩
theorem tJ.s {b : Nat} {G G' : mg_G} (h : tJ b G G') (i : Nat) (x : Int64) : tJ b G (mg_sJ G' b i x) := ⟨h.1, fun a ha => (mg_u2_ne _ _ _ ha).trans (h.2.1 a ha), h.2.2⟩
theorem tJ.fr {b : Nat} {G G' : mg_G} (h : tJ b G G') : mg_fr (fun a => a = b) G G' := fun a ha => ⟨congrFun h.1 a, h.2.1 a ha, by rw [h.2.2], by rw [h.2.2], by rw [h.2.2]⟩
def tIw (b : Nat) (G G' : mg_G) : Prop := (∀ a, a ≠ b → G'.1 a = G.1 a) ∧ G'.2 = G.2
theorem tIw.rf (b : Nat) (G : mg_G) : tIw b G G := ⟨fun _ _ => rfl, rfl⟩
theorem tIw.s {b : Nat} {G G' : mg_G} (h : tIw b G G') (i : Nat) (x : Int32) : tIw b G (mg_sI G' b i x) := ⟨fun a ha => (mg_u2_ne _ _ _ ha).trans (h.1 a ha), h.2⟩
theorem tIw.fr {b : Nat} {G G' : mg_G} (h : tIw b G G') : mg_fr (fun a => a = b) G G' := fun a ha => ⟨h.1 a ha, by rw [h.2], by rw [h.2], by rw [h.2], by rw [h.2]⟩
section TR
variable {scr : Nat × (Nat → Int32)} {t : List mg_S} {G : mg_G} {n : Nat} {A : a_A} {U : List a_A}
/-- remember, where there is room -/
theorem t179b (d : Nat) {G0 : mg_G} (hF : tFr G0 G) (h : tR n G A U) (hU : U.length < 8) {e : Option Value} : mg_wp (mg_KT scr n t) mc_179 d 76 [some (.ref 148), e] [] G (fun o q G' => o = .inl none ∧ q = 0 ∧ tR n G' A (U ++ [A]) ∧ tFr G0 G') := by
  obtain ⟨h1, h2, h3, h4, h5, h6⟩ := h
  refine mg_go [78] 20 76 ms_179 ?_
  refine mg_loop 12 (fun k L G' => L = [some (.ref 148), some (.int (Int32.ofNat k))] ∧ tJ 150 G G' ∧ (∀ f, f < k → G'.2.1 150 (12 * U.length + f) = G.2.1 149 f) ∧ ∀ i, i < 12 * U.length → G'.2.1 150 i = G.2.1 150 i) ?_ ?_ _ _ ⟨rfl, tJ.rf _ _, fun f hf => absurd hf (Nat.not_lt_zero f), fun _ _ => rfl⟩
  · rintro k L G' hk ⟨rfl, g1, g2, g3⟩ ih
    have e6 : G'.2.2.2.2 148 6 = .int (Int32.ofNat U.length) := by rw [g1.2.2]; exact h3
    refine mg_go [78] 60 78 ms_179 ?_
    refine ⟨fun h => absurd h (mg_nle (b := 12) hk (by decide)), fun _ => ?_⟩
    refine ⟨_, mg_Fs rfl rfl, _, mg_Fe e6 rfl rfl, _, mg_Fs rfl rfl, 12, _, k, mg_Al rfl (by decide), mg_ixN (by omega), hk, ?_⟩
    refine ⟨96, 12 * U.length + k, rfl, mg_ixE (tz_12 _ _) (by omega), by omega, ?_⟩
    refine ih _ _ ⟨by rw [← mg_inc k], g1.s _ _, fun f hf => ?_, fun i hi => ?_⟩
    · show mg_u2 G'.2.1 150 (12 * U.length + k) (G'.2.1 149 k) 150 (12 * U.length + f) = _
      rw [mg_u2_at, g1.2.1 149 (by decide)]
      by_cases e9 : f = k
      · subst e9
        rw [if_pos ⟨rfl, rfl⟩]
      · rw [if_neg (by omega)]
        exact g2 f (by omega)
    · show mg_u2 G'.2.1 150 (12 * U.length + k) (G'.2.1 149 k) 150 i = _
      rw [mg_u2_at, if_neg (by omega)]
      exact g3 i hi
  · rintro L G' ⟨rfl, g1, g2, g3⟩
    have e6 : G'.2.2.2.2 148 6 = .int (Int32.ofNat U.length) := by rw [g1.2.2]; exact h3
    have e3 : G'.2.2.2.2 148 3 = .int (Int32.ofNat (aF A)) := by rw [g1.2.2]; exact h1
    refine mg_go [] 60 78 ms_179 ?_
    refine ⟨fun _ => ?_, fun h => absurd h (by decide)⟩
    refine ⟨_, mg_Fs rfl rfl, _, mg_Fe e6 rfl rfl, _, mg_Fe e3 rfl rfl, 8, U.length, rfl, mg_ixN (by omega), hU, ?_⟩
    refine ⟨_, mg_Fe e6 rfl rfl, rfl, _, rfl, rfl, ?_⟩
    have f1 : tFr G0 (mg_sF (mg_sI G' 151 U.length (Int32.ofNat (aF A))) 148 6 (.int (Int32.ofNat U.length + Int32.ofInt 1))) :=
      ((hF.tr (g1.fr.mono (fun a ha => by omega))).tr ((mg_fr.sI _ _ _ (show (fun b => b = 148 ∨ b = 149 ∨ b = 150 ∨ b = 151) 151 by omega)))).tr (mg_fr.sF _ _ _ (show (fun b => b = 148 ∨ b = 149 ∨ b = 150 ∨ b = 151) 148 by omega))
    refine ⟨rfl, rfl, ⟨(mg_sF_ne _ _ (by decide)).trans e3, h2, ?_, ?_, fun f hf => ?_, fun i B hi => ?_⟩, f1⟩
    · rw [List.length_append]
      exact (mg_sF_at _ _ _ _).trans (congrArg Value.int (mg_inc _))
    · rw [List.length_append, List.length_singleton]
      omega
    · show G'.2.1 149 f = _
      rw [g1.2.1 149 (by decide)]
      exact h5 f hf
    · by_cases hlt : i < U.length
      · rw [List.getElem?_append_left hlt] at hi
        obtain ⟨q1, q2, q3⟩ := h6 i B hi
        refine ⟨q1, ?_, fun f hf => ?_⟩
        · show mg_u2 G'.1 151 U.length (Int32.ofNat (aF A)) 151 i = _
          rw [mg_u2_at, if_neg (by omega), g1.1]
          exact q2
        · show G'.2.1 150 (12 * i + f) = _
          rw [g3 _ (by omega)]
          exact q3 f hf
      · rw [List.getElem?_append_right (by omega)] at hi
        have hz : i - U.length < 1 := (List.getElem?_eq_some_iff.mp hi).1
        have ei : i = U.length := by omega
        subst ei
        rw [Nat.sub_self] at hi
        cases hi
        refine ⟨h2, ?_, fun f hf => ?_⟩
        · show mg_u2 G'.1 151 U.length (Int32.ofNat (aF A)) 151 U.length = _
          rw [mg_u2_at, if_pos ⟨rfl, rfl⟩]
        · show G'.2.1 150 (12 * U.length + f) = _
          rw [g2 f (by omega)]
          exact h5 f hf
end TR
