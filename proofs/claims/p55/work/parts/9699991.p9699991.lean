/-- the number of the word that a statement begins with: let, cost, percent, drop, swap, move, sift, siftall -/
def k_kd (l : List Nat) (p : Nat) : Option Nat := a_ff (fun i => k_wd l p (k_str (29 + i))) 8
section KC
variable {scr : Nat × (Nat → Int32)} {t : List mg_S} {G : mg_G} {l : List Nat} {p : Nat}
theorem c44 (d : Nat) (hI : cIn G l) (hB : ckB G l) (hk : ck G l p) (hp : p ≤ l.length) : mg_m (mg_KC scr t) (d + 6) 44 [.ref 3] G (mg_v (.int (a_oi (k_kd l p))) G) := by
  have w0 := c96 (scr := scr) (t := t) d hI hB hk hp (a := 29) (by unfold k_ok; omega) (by decide)
  have w1 := c96 (scr := scr) (t := t) d hI hB hk hp (a := 30) (by unfold k_ok; omega) (by decide)
  have w2 := c96 (scr := scr) (t := t) d hI hB hk hp (a := 31) (by unfold k_ok; omega) (by decide)
  have w3 := c96 (scr := scr) (t := t) d hI hB hk hp (a := 32) (by unfold k_ok; omega) (by decide)
  have w4 := c96 (scr := scr) (t := t) d hI hB hk hp (a := 33) (by unfold k_ok; omega) (by decide)
  have w5 := c96 (scr := scr) (t := t) d hI hB hk hp (a := 34) (by unfold k_ok; omega) (by decide)
  have w6 := c96 (scr := scr) (t := t) d hI hB hk hp (a := 35) (by unfold k_ok; omega) (by decide)
  have w7 := c96 (scr := scr) (t := t) d hI hB hk hp (a := 36) (by unfold k_ok; omega) (by decide)
  refine mg_me [] 120 my_44 ms_44 (Nat.le_of_ble_eq_true rfl) ?_
  repeat (first | refine ⟨_, mg_Fs rfl rfl, ?_⟩ | refine ⟨Or.inl rfl, ?_⟩ | refine ⟨Or.inr ⟨_, rfl⟩, ?_⟩ | refine ⟨fun _ => ?_, fun h => absurd h (by decide)⟩ | refine ⟨fun h => absurd h (by decide), fun _ => ?_⟩)
  refine mg_cv (w0) (by omega) ?_
  cases b0 : k_wd l p (k_str 29) with
  | true =>
    refine ⟨fun q => absurd q (by decide), fun _ => ⟨Or.inl rfl, ?_, rfl, rfl⟩⟩
    rw [show k_kd l p = some 0 from a_ff_some (by decide) b0 (fun j hj => absurd hj (Nat.not_lt_zero j))]
    rfl
  | false =>
    refine ⟨fun _ => ?_, fun q => absurd rfl q⟩
    repeat (first | refine ⟨_, mg_Fs rfl rfl, ?_⟩ | refine ⟨Or.inl rfl, ?_⟩ | refine ⟨Or.inr ⟨_, rfl⟩, ?_⟩ | refine ⟨fun _ => ?_, fun h => absurd h (by decide)⟩ | refine ⟨fun h => absurd h (by decide), fun _ => ?_⟩)
    refine mg_cv (w1) (by omega) ?_
    cases b1 : k_wd l p (k_str 30) with
    | true =>
      refine ⟨fun q => absurd q (by decide), fun _ => ⟨Or.inl rfl, ?_, rfl, rfl⟩⟩
      rw [show k_kd l p = some 1 from a_ff_some (by decide) b1 (fun j hj => by match j, hj with | 0, _ => exact b0)]
      rfl
    | false =>
      refine ⟨fun _ => ?_, fun q => absurd rfl q⟩
      repeat (first | refine ⟨_, mg_Fs rfl rfl, ?_⟩ | refine ⟨Or.inl rfl, ?_⟩ | refine ⟨Or.inr ⟨_, rfl⟩, ?_⟩ | refine ⟨fun _ => ?_, fun h => absurd h (by decide)⟩ | refine ⟨fun h => absurd h (by decide), fun _ => ?_⟩)
      refine mg_cv (w2) (by omega) ?_
      cases b2 : k_wd l p (k_str 31) with
      | true =>
        refine ⟨fun q => absurd q (by decide), fun _ => ⟨Or.inl rfl, ?_, rfl, rfl⟩⟩
        rw [show k_kd l p = some 2 from a_ff_some (by decide) b2 (fun j hj => by match j, hj with | 0, _ => exact b0 | 1, _ => exact b1)]
        rfl
      | false =>
        refine ⟨fun _ => ?_, fun q => absurd rfl q⟩
        repeat (first | refine ⟨_, mg_Fs rfl rfl, ?_⟩ | refine ⟨Or.inl rfl, ?_⟩ | refine ⟨Or.inr ⟨_, rfl⟩, ?_⟩ | refine ⟨fun _ => ?_, fun h => absurd h (by decide)⟩ | refine ⟨fun h => absurd h (by decide), fun _ => ?_⟩)
        refine mg_cv (w3) (by omega) ?_
        cases b3 : k_wd l p (k_str 32) with
        | true =>
          refine ⟨fun q => absurd q (by decide), fun _ => ⟨Or.inl rfl, ?_, rfl, rfl⟩⟩
          rw [show k_kd l p = some 3 from a_ff_some (by decide) b3 (fun j hj => by match j, hj with | 0, _ => exact b0 | 1, _ => exact b1 | 2, _ => exact b2)]
          rfl
        | false =>
          refine ⟨fun _ => ?_, fun q => absurd rfl q⟩
          repeat (first | refine ⟨_, mg_Fs rfl rfl, ?_⟩ | refine ⟨Or.inl rfl, ?_⟩ | refine ⟨Or.inr ⟨_, rfl⟩, ?_⟩ | refine ⟨fun _ => ?_, fun h => absurd h (by decide)⟩ | refine ⟨fun h => absurd h (by decide), fun _ => ?_⟩)
          refine mg_cv (w4) (by omega) ?_
          cases b4 : k_wd l p (k_str 33) with
          | true =>
            refine ⟨fun q => absurd q (by decide), fun _ => ⟨Or.inl rfl, ?_, rfl, rfl⟩⟩
            rw [show k_kd l p = some 4 from a_ff_some (by decide) b4 (fun j hj => by match j, hj with | 0, _ => exact b0 | 1, _ => exact b1 | 2, _ => exact b2 | 3, _ => exact b3)]
            rfl
          | false =>
            refine ⟨fun _ => ?_, fun q => absurd rfl q⟩
            repeat (first | refine ⟨_, mg_Fs rfl rfl, ?_⟩ | refine ⟨Or.inl rfl, ?_⟩ | refine ⟨Or.inr ⟨_, rfl⟩, ?_⟩ | refine ⟨fun _ => ?_, fun h => absurd h (by decide)⟩ | refine ⟨fun h => absurd h (by decide), fun _ => ?_⟩)
            refine mg_cv (w5) (by omega) ?_
            cases b5 : k_wd l p (k_str 34) with
            | true =>
              refine ⟨fun q => absurd q (by decide), fun _ => ⟨Or.inl rfl, ?_, rfl, rfl⟩⟩
              rw [show k_kd l p = some 5 from a_ff_some (by decide) b5 (fun j hj => by match j, hj with | 0, _ => exact b0 | 1, _ => exact b1 | 2, _ => exact b2 | 3, _ => exact b3 | 4, _ => exact b4)]
              rfl
            | false =>
              refine ⟨fun _ => ?_, fun q => absurd rfl q⟩
              repeat (first | refine ⟨_, mg_Fs rfl rfl, ?_⟩ | refine ⟨Or.inl rfl, ?_⟩ | refine ⟨Or.inr ⟨_, rfl⟩, ?_⟩ | refine ⟨fun _ => ?_, fun h => absurd h (by decide)⟩ | refine ⟨fun h => absurd h (by decide), fun _ => ?_⟩)
              refine mg_cv (w6) (by omega) ?_
              cases b6 : k_wd l p (k_str 35) with
              | true =>
                refine ⟨fun q => absurd q (by decide), fun _ => ⟨Or.inl rfl, ?_, rfl, rfl⟩⟩
                rw [show k_kd l p = some 6 from a_ff_some (by decide) b6 (fun j hj => by match j, hj with | 0, _ => exact b0 | 1, _ => exact b1 | 2, _ => exact b2 | 3, _ => exact b3 | 4, _ => exact b4 | 5, _ => exact b5)]
                rfl
              | false =>
                refine ⟨fun _ => ?_, fun q => absurd rfl q⟩
                repeat (first | refine ⟨_, mg_Fs rfl rfl, ?_⟩ | refine ⟨Or.inl rfl, ?_⟩ | refine ⟨Or.inr ⟨_, rfl⟩, ?_⟩ | refine ⟨fun _ => ?_, fun h => absurd h (by decide)⟩ | refine ⟨fun h => absurd h (by decide), fun _ => ?_⟩)
                refine mg_cv (w7) (by omega) ?_
                cases b7 : k_wd l p (k_str 36) with
                | true =>
                  refine ⟨fun q => absurd q (by decide), fun _ => ⟨Or.inl rfl, ?_, rfl, rfl⟩⟩
                  rw [show k_kd l p = some 7 from a_ff_some (by decide) b7 (fun j hj => by match j, hj with | 0, _ => exact b0 | 1, _ => exact b1 | 2, _ => exact b2 | 3, _ => exact b3 | 4, _ => exact b4 | 5, _ => exact b5 | 6, _ => exact b6)]
                  rfl
                | false =>
                  refine ⟨fun _ => ⟨Or.inl rfl, ?_, rfl, rfl⟩, fun q => absurd rfl q⟩
                  rw [show k_kd l p = none from a_ff_none (fun j hj => by match j, hj with | 0, _ => exact b0 | 1, _ => exact b1 | 2, _ => exact b2 | 3, _ => exact b3 | 4, _ => exact b4 | 5, _ => exact b5 | 6, _ => exact b6 | 7, _ => exact b7)]
                  rfl
end KC
