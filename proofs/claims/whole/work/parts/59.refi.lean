/-! REFERENCE: clearNodes -/
def rZ (G : mg_G) : mg_G := mg_sI (mg_sI (mg_sI (mg_sI (mg_sI (mg_sI (mg_sF (mg_u G.1 160 (fun i => if i < 4096 then 0 else G.1 160 i), G.2) 148 16 (.int (Int32.ofInt 2))) 156 0 (Int32.ofInt (-1))) 156 1 (Int32.ofInt (-1))) 157 0 (Int32.ofInt (-1))) 157 1 (Int32.ofInt (-1))) 158 0 (Int32.ofInt (-1))) 158 1 (Int32.ofInt (-1))
theorem rZ_I (G : mg_G) (b j : Nat) : (rZ G).1 b j = if (b = 156 ∨ b = 157 ∨ b = 158) ∧ j < 2 then Int32.ofInt (-1) else mg_u G.1 160 (fun i => if i < 4096 then 0 else G.1 160 i) b j := by
  unfold rZ
  rw [mg_sI_at, mg_sI_at, mg_sI_at, mg_sI_at, mg_sI_at, mg_sI_at]
  by_cases h : (b = 156 ∨ b = 157 ∨ b = 158) ∧ j < 2
  · rw [if_pos h]
    obtain ⟨h1, h2⟩ := h
    rcases (show j = 0 ∨ j = 1 by omega) with rfl | rfl <;> rcases h1 with rfl | rfl | rfl <;> rfl
  · rw [if_neg h, if_neg (by omega), if_neg (by omega), if_neg (by omega), if_neg (by omega), if_neg (by omega), if_neg (by omega)]
theorem rZ_fr (G : mg_G) : rFr 0 G (rZ G) := by
  refine ⟨fun b b1 b2 b3 b4 => ?_, fun b i _ hi => absurd hi (Nat.not_lt_zero _), fun _ _ => rfl, rfl, rfl, fun b k hb => ?_⟩
  · funext j
    rw [rZ_I, if_neg (by omega), mg_u_ne _ _ b4]
  · show mg_u2 G.2.2.2.2 148 16 (.int (Int32.ofInt 2)) b k = _
    rw [mg_u2_at, if_neg hb]
theorem rZ_N (G : mg_G) : rN (rZ G) [] := by
  refine ⟨?_, fun i T h => by simp at h, fun _ => 0, fun q hq => ?_, a_hs_nil⟩
  · show mg_u2 G.2.2.2.2 148 16 (.int (Int32.ofInt 2)) 148 16 = _
    rw [mg_u2_at, if_pos ⟨rfl, rfl⟩]
    rfl
  · rw [rZ_I, if_neg (by omega), mg_u_eq, if_pos hq]
    rfl
section RM
variable {scr : Nat × (Nat → Int32)} {t : List mg_S}
theorem r194_l (d : Nat) (G : mg_G) {Q : mg_Q} (k : mg_wp (mg_KM scr t) mc_194 d 22 [some (.ref 148), some (.int (Int32.ofNat 4096))] [] (mg_u G.1 160 (fun i => if i < 4096 then 0 else G.1 160 i), G.2) Q) :
    ∀ (m j : Nat), j + m = 4096 → mg_wp (mg_KM scr t) mc_194 d 2 [some (.ref 148), some (.int (Int32.ofNat j))] [] (mg_u G.1 160 (fun i => if i < j then 0 else G.1 160 i), G.2) Q := by
  intro m
  induction m with
  | zero =>
    intro j h
    have ej : j = 4096 := by omega
    subst ej
    refine mg_go [2, 22] 20 2 ms_194 ?_
    exact ⟨fun _ => k, fun h => absurd h (Int32.not_lt.mpr (Int32.le_refl _))⟩
  | succ m ih =>
    intro j h
    refine mg_go [2, 22] 20 2 ms_194 ?_
    refine ⟨fun h2 => ?_, fun _ => ?_⟩
    · have h2 : Int32.ofNat 4096 ≤ Int32.ofNat j := h2
      have := (mg_leN (by omega) (by omega)).mp h2
      omega
    · refine ⟨_, mg_Fs rfl rfl, 4096, j, rfl, mg_ixN (by omega), by omega, ?_⟩
      have := ih (j + 1) (by omega)
      rw [← mg_inc j] at this
      have e : mg_u2 (mg_u G.1 160 (fun i => if i < j then 0 else G.1 160 i)) 160 j (Int32.ofInt 0) = mg_u G.1 160 (fun i => if i < j + 1 then 0 else G.1 160 i) := by
        rw [mg_u2_u]
        congr 1
        funext i
        by_cases hi : i = j
        · subst hi
          rw [mg_u_eq, if_pos (Nat.lt_succ_self _)]
          rfl
        · rw [mg_u_ne _ _ hi]
          by_cases h3 : i < j
          · rw [if_pos h3, if_pos (by omega)]
          · rw [if_neg h3, if_neg (by omega)]
      rw [← e] at this
      exact this
theorem r194 (d : Nat) (G : mg_G) : mg_m (mg_KM scr t) (d + 1) 194 [.ref 148] G (mg_n (rZ G)) := by
  refine mg_me [2] 10 my_194 ms_194 (Nat.le_of_ble_eq_true rfl) ?_
  have key := r194_l (scr := scr) (t := t) d G (Q := mg_n (rZ G)) ?_ 4096 0 (by omega)
  · rw [show mg_u G.1 160 (fun i => if i < 0 then 0 else G.1 160 i) = G.1 by
      have e : (fun i => if i < 0 then 0 else G.1 160 i) = G.1 160 := by funext j; rfl
      rw [e, mg_u_id]] at key
    exact key
  · refine mg_go [] 60 22 ms_194 ?_
    refine ⟨rfl, _, rfl, rfl, ?_⟩
    refine ⟨_, mg_Fs rfl rfl, 1000, 0, rfl, ⟨by decide, by decide⟩, by decide, ?_⟩
    refine ⟨_, mg_Fs rfl rfl, 1000, 1, rfl, ⟨by decide, by decide⟩, by decide, ?_⟩
    refine ⟨_, mg_Fs rfl rfl, 1000, 0, rfl, ⟨by decide, by decide⟩, by decide, ?_⟩
    refine ⟨_, mg_Fs rfl rfl, 1000, 1, rfl, ⟨by decide, by decide⟩, by decide, ?_⟩
    refine ⟨_, mg_Fs rfl rfl, 1000, 0, rfl, ⟨by decide, by decide⟩, by decide, ?_⟩
    refine ⟨_, mg_Fs rfl rfl, 1000, 1, rfl, ⟨by decide, by decide⟩, by decide, ?_⟩
    exact ⟨rfl, rfl, rfl⟩
end RM
