theorem zB_n {r : zRs} {f : a_T → Nat → zRs} (h : r ≠ none) (h2 : ∀ T q, r = some (.inr (T, q)) → f T q ≠ none) : zB r f ≠ none := by
  match r, h, h2 with
  | none, h, _ => exact absurd rfl h
  | some (.inl e), _, _ => exact fun q => nomatch q
  | some (.inr (T, q)), _, h2 => exact h2 T q rfl
def z_mu (l : List Nat) (lvl : Nat) (acc : Option a_T) (p : Nat) : Nat := 16 * (l.length - p) + (match acc with | none => 2 * (5 - lvl) + 2 | some _ => 1)
theorem zP_tot {A : a_A} (hW : aW A) {l : List Nat} : ∀ n lvl acc o p, p ≤ l.length → lvl ≤ 5 → (∀ T, acc = some T → a_per (aV A) T ∧ lvl < 5) → z_mu l lvl acc p < n → zP A l n lvl acc o p ≠ none := by
  intro n
  induction n with
  | zero => exact fun _ _ _ _ _ _ _ h => absurd h (Nat.not_lt_zero _)
  | succ n ih =>
    intro lvl acc o p hp hl ha hm
    have hS := k_S_ge l p
    have hSE := k_E_ge l p
    have hE := k_E_le hp
    have hEE := k_E_le hE
    have hSE2 := k_E_ge l (k_E l p)
    have hS2 := k_S_ge l (k_E l p)
    have er : ∀ c q, zErr c l q ≠ none := fun c q h => nomatch h
    have nn : ∀ lvl q, q ≤ l.length → lvl ≤ 5 → 16 * (l.length - q) + (2 * (5 - lvl) + 2) < n → ∀ o, zP A l n lvl none o q ≠ none := fun lvl q h1 h2 h3 o => ih lvl none o q h1 h2 (fun _ q => nomatch q) h3
    cases acc with
    | some T0 =>
      have hm : 16 * (l.length - p) + 1 < n + 1 := hm
      show (if k_is l p (k_sg lvl) = true then zB (zP A l n (lvl + 1) none o (k_E l p)) (fun U q => if lvl = 1 then some (.inr (a_op (k_op lvl) T0 U, q)) else zP A l n lvl (some (a_op (k_op lvl) T0 U)) o q) else some (.inr (T0, p))) ≠ none
      by_cases hs : k_is l p (k_sg lvl) = true
      · rw [if_pos hs]
        have := k_is_E hs
        have h5 := (ha T0 rfl).2
        refine zB_n (nn _ _ hE (by omega) (by omega) o) (fun U q g => ?_)
        obtain ⟨m1, m2, m3, -⟩ := zP_okn hW hE g
        by_cases e1 : lvl = 1
        · rw [if_pos e1]
          exact fun q => nomatch q
        · rw [if_neg e1]
          exact ih lvl _ o q m2 hl (fun T' z => by cases z; exact ⟨a_per_op _ (ha T0 rfl).1 m3, h5⟩) (by show 16 * (l.length - q) + 1 < n; omega)
      · rw [if_neg hs]
        exact fun q => nomatch q
    | none =>
      have hm : 16 * (l.length - p) + (2 * (5 - lvl) + 2) < n + 1 := hm
      have ok : ∀ {lvl o q T q'}, q ≤ l.length → zP A l n lvl none o q = some (.inr (T, q')) → q < q' ∧ q' ≤ l.length ∧ a_per (aV A) T := fun h g => by
        obtain ⟨m1, m2, m3, m4⟩ := zP_okn hW h g
        exact ⟨m4, m2, m3⟩
      simp only [zP]
      split
      · refine zB_n (nn _ _ hp (by omega) (by omega) o) (fun U q g => ?_)
        obtain ⟨m1, m2, m3⟩ := ok hp g
        exact ih lvl _ o q m2 hl (fun T' z => by cases z; exact ⟨m3, by omega⟩) (by show 16 * (l.length - q) + 1 < n; omega)
      split
      · rename_i hs
        have := k_is_E hs
        exact zB_n (nn _ _ hE (by omega) (by omega) o) (fun U q g z => nomatch z)
      split
      · rename_i hs
        have hlt : k_S l p < k_E l p := by
          rw [Bool.or_eq_true] at hs
          exact hs.elim k_wd_E k_wd_E
        split
        · split
          · exact er _ _
          · exact zB_n (nn _ _ hEE (by omega) (by omega) o) (fun U q g z => nomatch z)
        · exact er _ _
      split
      · rename_i hs
        have hlt := k_wd_E hs
        split
        · split
          · exact er _ _
          · refine zB_n (nn _ _ hEE (by omega) (by omega) _) (fun U q g => ?_)
            obtain ⟨m1, m2, m3⟩ := ok hEE g
            have f1 := k_E_le m2
            have f2 := k_E_ge l q
            have f3 := k_S_ge l q
            split
            · refine zB_n (nn _ _ f1 (by omega) (by omega) _) (fun U2 q2 g2 => ?_)
              obtain ⟨m4, m5, m6⟩ := ok f1 g2
              have f4 := k_E_le m5
              have f5 := k_E_ge l q2
              have f6 := k_S_ge l q2
              split
              · refine zB_n (nn _ _ f4 (by omega) (by omega) _) (fun U3 q3 g3 => ?_)
                split
                · exact fun q => nomatch q
                · exact er _ _
              · exact er _ _
            · exact er _ _
        · exact er _ _
      split
      · rename_i hs
        have := k_is_E hs
        split
        · exact er _ _
        · refine zB_n (nn _ _ hE (by omega) (by omega) _) (fun U q g => ?_)
          split
          · exact fun q => nomatch q
          · exact er _ _
      split
      · split
        · exact fun q => nomatch q
        · split
          · exact fun q => nomatch q
          · exact er _ _
      split
      · exact fun q => nomatch q
      · exact er _ _
