/-! REFERENCE: what depends, what is equal, orders -/
theorem mg_u2_u {α : Type} (f : Nat → Nat → α) (a : Nat) (g : Nat → α) (k : Nat) (x : α) : mg_u2 (mg_u f a g) a k x = mg_u f a (mg_u g k x) := by
  funext b
  unfold mg_u2
  by_cases h : b = a
  · subst h
    rw [mg_u_eq, mg_u_eq, mg_u_eq]
  · rw [mg_u_ne _ _ h, mg_u_ne _ _ h, mg_u_ne _ _ h]
theorem mg_u_id {α : Type} (f : Nat → Nat → α) (a : Nat) : mg_u f a (f a) = f := by
  funext b
  by_cases h : b = a
  · subst h; rw [mg_u_eq]
  · rw [mg_u_ne _ _ h]
/-- what is left of a table with a value of a variable -/
def a_cof (m : Nat → Int64) (T : a_T) (v : Nat) (x : Int32) : a_T := (a_left m T (Int32.ofNat v) x 0, a_left m T (Int32.ofNat v) x 1, a_left m T (Int32.ofNat v) x 2, a_left m T (Int32.ofNat v) x 3)
def a_dep (m : Nat → Int64) (T : a_T) (v : Nat) : Bool := decide (a_cof m T v 0 ≠ a_cof m T v 1)
theorem a_eq4 {a b c d a' b' c' d' : Int64} : ((a, b, c, d) : a_T) = (a', b', c', d') ↔ a = a' ∧ b = b' ∧ c = c' ∧ d = d' := by
  simp only [Prod.mk.injEq]
theorem mg_v8 : ∀ v, v < 8 → (0 : Int32) ≤ Int32.ofNat v := by decide +kernel
section RM
variable {scr : Nat × (Nat → Int32)} {t : List mg_S}
theorem r191 (d f v : Nat) (hf : f < 144) (hv : v < 8) (G : mg_G) : mg_m (mg_KM scr t) (d + 4) 191 [.ref 148, .int (Int32.ofNat f), .int (Int32.ofNat v)] G (mg_v (.int (if a_dep (G.2.1 154) (a_tb G f) v then 1 else 0)) G) := by
  have h8 := mg_v8 v hv
  refine mg_me [] 120 my_191 ms_191 (Nat.le_of_ble_eq_true rfl) ?_
  refine ⟨fun h => absurd h (by decide), fun _ => ?_⟩
  refine ⟨Or.inr ⟨_, rfl⟩, mg_cv (r190 d f hf (Int32.ofNat v) 0 0 h8 G) (by omega) ?_⟩
  refine ⟨Or.inr ⟨_, rfl⟩, mg_cv (r190 d f hf (Int32.ofNat v) 1 0 h8 G) (by omega) ?_⟩
  refine ⟨fun h0 => ?_, fun h0 => ⟨Or.inr rfl, by rw [show a_dep (G.2.1 154) (a_tb G f) v = true from decide_eq_true (fun e => h0 ((lg_cmp_eq _ _).mpr (congrArg (fun q : a_T => q.1) e)))]; rfl, rfl, rfl⟩⟩
  refine ⟨fun h => absurd h (by decide), fun _ => ?_⟩
  refine ⟨Or.inr ⟨_, rfl⟩, mg_cv (r190 d f hf (Int32.ofNat v) 0 1 h8 G) (by omega) ?_⟩
  refine ⟨Or.inr ⟨_, rfl⟩, mg_cv (r190 d f hf (Int32.ofNat v) 1 1 h8 G) (by omega) ?_⟩
  refine ⟨fun h1 => ?_, fun h1 => ⟨Or.inr rfl, by rw [show a_dep (G.2.1 154) (a_tb G f) v = true from decide_eq_true (fun e => h1 ((lg_cmp_eq _ _).mpr (congrArg (fun q : a_T => q.2.1) e)))]; rfl, rfl, rfl⟩⟩
  refine ⟨fun h => absurd h (by decide), fun _ => ?_⟩
  refine ⟨Or.inr ⟨_, rfl⟩, mg_cv (r190 d f hf (Int32.ofNat v) 0 2 h8 G) (by omega) ?_⟩
  refine ⟨Or.inr ⟨_, rfl⟩, mg_cv (r190 d f hf (Int32.ofNat v) 1 2 h8 G) (by omega) ?_⟩
  refine ⟨fun h2 => ?_, fun h2 => ⟨Or.inr rfl, by rw [show a_dep (G.2.1 154) (a_tb G f) v = true from decide_eq_true (fun e => h2 ((lg_cmp_eq _ _).mpr (congrArg (fun q : a_T => q.2.2.1) e)))]; rfl, rfl, rfl⟩⟩
  refine ⟨fun h => absurd h (by decide), fun _ => ?_⟩
  refine ⟨Or.inr ⟨_, rfl⟩, mg_cv (r190 d f hf (Int32.ofNat v) 0 3 h8 G) (by omega) ?_⟩
  refine ⟨Or.inr ⟨_, rfl⟩, mg_cv (r190 d f hf (Int32.ofNat v) 1 3 h8 G) (by omega) ?_⟩
  refine ⟨fun h3 => ?_, fun h3 => ⟨Or.inr rfl, by rw [show a_dep (G.2.1 154) (a_tb G f) v = true from decide_eq_true (fun e => h3 ((lg_cmp_eq _ _).mpr (congrArg (fun q : a_T => q.2.2.2) e)))]; rfl, rfl, rfl⟩⟩
  refine ⟨fun _ => ?_, fun h => absurd h (by decide)⟩
  have e : a_dep (G.2.1 154) (a_tb G f) v = false := decide_eq_false (fun q => q (a_eq4.mpr ⟨(lg_cmp_eq _ _).mp h0, (lg_cmp_eq _ _).mp h1, (lg_cmp_eq _ _).mp h2, (lg_cmp_eq _ _).mp h3⟩))
  exact ⟨Or.inr rfl, by rw [e]; rfl, rfl, rfl⟩
theorem r193 (d f g : Nat) (hf : f < 144) (hg : g < 144) (G : mg_G) : mg_m (mg_KM scr t) (d + 2) 193 [.ref 148, .int (Int32.ofNat f), .int (Int32.ofNat g)] G (mg_v (.int (if a_tb G f = a_tb G g then 1 else 0)) G) := by
  refine mg_me [] 120 my_193 ms_193 (Nat.le_of_ble_eq_true rfl) ?_
  refine ⟨fun h => absurd h (by decide), fun _ => ?_⟩
  refine ⟨Or.inr ⟨_, rfl⟩, mg_cv (r189 d f 0 (by omega) G) (by omega) ?_⟩
  refine ⟨Or.inr ⟨_, rfl⟩, mg_cv (r189 d g 0 (by omega) G) (by omega) ?_⟩
  refine ⟨fun h0 => ?_, fun h0 => ⟨Or.inr rfl, by rw [if_neg (show ¬ a_tb G f = a_tb G g from fun e => h0 ((lg_cmp_eq _ _).mpr (congrArg (fun q : a_T => q.1) e)))]; rfl, rfl, rfl⟩⟩
  refine ⟨fun h => absurd h (by decide), fun _ => ?_⟩
  refine ⟨Or.inr ⟨_, rfl⟩, mg_cv (r189 d f 1 (by omega) G) (by omega) ?_⟩
  refine ⟨Or.inr ⟨_, rfl⟩, mg_cv (r189 d g 1 (by omega) G) (by omega) ?_⟩
  refine ⟨fun h1 => ?_, fun h1 => ⟨Or.inr rfl, by rw [if_neg (show ¬ a_tb G f = a_tb G g from fun e => h1 ((lg_cmp_eq _ _).mpr (congrArg (fun q : a_T => q.2.1) e)))]; rfl, rfl, rfl⟩⟩
  refine ⟨fun h => absurd h (by decide), fun _ => ?_⟩
  refine ⟨Or.inr ⟨_, rfl⟩, mg_cv (r189 d f 2 (by omega) G) (by omega) ?_⟩
  refine ⟨Or.inr ⟨_, rfl⟩, mg_cv (r189 d g 2 (by omega) G) (by omega) ?_⟩
  refine ⟨fun h2 => ?_, fun h2 => ⟨Or.inr rfl, by rw [if_neg (show ¬ a_tb G f = a_tb G g from fun e => h2 ((lg_cmp_eq _ _).mpr (congrArg (fun q : a_T => q.2.2.1) e)))]; rfl, rfl, rfl⟩⟩
  refine ⟨fun h => absurd h (by decide), fun _ => ?_⟩
  refine ⟨Or.inr ⟨_, rfl⟩, mg_cv (r189 d f 3 (by omega) G) (by omega) ?_⟩
  refine ⟨Or.inr ⟨_, rfl⟩, mg_cv (r189 d g 3 (by omega) G) (by omega) ?_⟩
  refine ⟨fun h3 => ?_, fun h3 => ⟨Or.inr rfl, by rw [if_neg (show ¬ a_tb G f = a_tb G g from fun e => h3 ((lg_cmp_eq _ _).mpr (congrArg (fun q : a_T => q.2.2.2) e)))]; rfl, rfl, rfl⟩⟩
  refine ⟨fun _ => ?_, fun h => absurd h (by decide)⟩
  exact ⟨Or.inr rfl, by rw [if_pos (show a_tb G f = a_tb G g from a_eq4.mpr ⟨(lg_cmp_eq _ _).mp h0, (lg_cmp_eq _ _).mp h1, (lg_cmp_eq _ _).mp h2, (lg_cmp_eq _ _).mp h3⟩)]; rfl, rfl, rfl⟩
theorem r195_l (d nv : Nat) (G : mg_G) (hn : G.1 149 0 = Int32.ofNat nv) (h8 : nv < 9) (G2 : mg_G) (hG2 : G2 = (mg_u G.1 161 (fun j => if j < nv then G.1 149 (2 + j) else G.1 161 j), G.2)) : ∀ (j k : Nat), k + j = nv → mg_wp (mg_KM scr t) mc_195 (d + 1) 2 [some (.ref 148), some (.int (Int32.ofNat k))] [] (mg_u G.1 161 (fun j => if j < k then G.1 149 (2 + j) else G.1 161 j), G.2) (mg_n G2) := by
  have hk : ∀ g : Nat → Int32, mg_u G.1 161 g 149 0 = Int32.ofNat nv := fun g => (congrFun (mg_u_ne G.1 g (by decide : (149 : Nat) ≠ 161)) 0).trans hn
  intro j
  induction j with
  | zero =>
    intro k h
    refine mg_go [2] 40 2 ms_195 ?_
    refine ⟨Or.inr ⟨_, rfl⟩, mg_cv (r178n (nv := nv) (G := (mg_u G.1 161 (fun j => if j < k then G.1 149 (2 + j) else G.1 161 j), G.2)) d (hk (fun j => if j < k then G.1 149 (2 + j) else G.1 161 j))) (by omega) ⟨fun _ => ?_, fun h2 => ?_⟩⟩
    · exact ⟨rfl, rfl, by rw [hG2, show k = nv by omega]⟩
    · have := (mg_ltN (by omega) (by omega)).mp h2
      omega
  | succ j ih =>
    intro k h
    refine mg_go [2] 40 2 ms_195 ?_
    refine ⟨Or.inr ⟨_, rfl⟩, mg_cv (r178n (nv := nv) (G := (mg_u G.1 161 (fun j => if j < k then G.1 149 (2 + j) else G.1 161 j), G.2)) d (hk (fun j => if j < k then G.1 149 (2 + j) else G.1 161 j))) (by omega) ⟨fun h2 => ?_, fun _ => ?_⟩⟩
    · have := (mg_leN (by omega) (by omega)).mp h2
      omega
    · refine ⟨_, mg_Fs rfl rfl, _, mg_Fs rfl rfl, _, _, 2 + k, mg_Ai rfl (by decide), mg_ixE (by rw [Int32.ofNat_add]; rfl) (by omega), by omega, ?_⟩
      refine ⟨8, k, rfl, mg_ixN (by omega), by omega, ?_⟩
      have := ih (k + 1) (by omega)
      rw [← mg_inc k] at this
      have e : mg_u2 (mg_u G.1 161 (fun j => if j < k then G.1 149 (2 + j) else G.1 161 j)) 161 k (mg_u G.1 161 (fun j => if j < k then G.1 149 (2 + j) else G.1 161 j) 149 (2 + k)) = mg_u G.1 161 (fun j => if j < k + 1 then G.1 149 (2 + j) else G.1 161 j) := by
        rw [mg_u2_u, mg_u_ne _ _ (by decide : (149 : Nat) ≠ 161)]
        congr 1
        funext i
        by_cases hi : i = k
        · subst hi
          rw [mg_u_eq, if_pos (Nat.lt_succ_self _)]
        · rw [mg_u_ne _ _ hi]
          by_cases h3 : i < k
          · rw [if_pos h3, if_pos (by omega)]
          · rw [if_neg h3, if_neg (by omega)]
      rw [← e] at this
      exact this
theorem r195 (d nv : Nat) (G : mg_G) (hn : G.1 149 0 = Int32.ofNat nv) (h8 : nv < 9) : mg_m (mg_KM scr t) (d + 2) 195 [.ref 148] G (mg_n (mg_u G.1 161 (fun j => if j < nv then G.1 149 (2 + j) else G.1 161 j), G.2)) := by
  refine mg_me [2] 10 my_195 ms_195 (Nat.le_of_ble_eq_true rfl) ?_
  have := r195_l (scr := scr) (t := t) d nv G hn h8 _ rfl nv 0 (by omega)
  rw [show mg_u G.1 161 (fun j => if j < 0 then G.1 149 (2 + j) else G.1 161 j) = G.1 by
    have e : (fun j => if j < 0 then G.1 149 (2 + j) else G.1 161 j) = G.1 161 := by funext j; rfl
    rw [e, mg_u_id]] at this
  exact this
end RM
