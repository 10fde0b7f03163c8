/-! REFERENCE: which statement stands -/
def k_df (l : List Nat) (p : Nat) : Bool := k_wd l p (k_str 29) || (k_wd l p (k_str 30) || k_wd l p (k_str 31))
def k_sm (l : List Nat) (p : Nat) : Bool := k_df l p || (k_wd l p (k_str 32) || (k_wd l p (k_str 33) || (k_wd l p (k_str 34) || (k_wd l p (k_str 35) || k_wd l p (k_str 36)))))
section RM
variable {scr : Nat × (Nat → Int32)} {t : List mg_S} {G : mg_G} {l : List Nat} {p : Nat}
/-- the reference's words are the class's -/
theorem r213c (d : Nat) (hI : rIn G l) (hk : rk G l p) (hp : p ≤ l.length) {a : Nat} (ha : k_ok a) (h37 : a ≠ 37) {b : Nat} (e : k_str a = k_str b) : mg_m (mg_KM scr t) (d + 5) 213 [.ref 148, .ref (2000000 + a)] G (mg_v (.int (b2 (k_wd l p (k_str b)))) G) := by
  rw [← e]
  exact r213 d hI hk hp ha h37
theorem r243 (d : Nat) (hI : rIn G l) (hk : rk G l p) (hp : p ≤ l.length) : mg_m (mg_KM scr t) (d + 6) 243 [.ref 148] G (mg_v (.int (b2 (k_df l p))) G) := by
  have w29 := r213c (scr := scr) (t := t) d hI hk hp (a := 42) (by unfold k_ok; omega) (by decide) (b := 29) (by decide)
  have w30 := r213c (scr := scr) (t := t) d hI hk hp (a := 43) (by unfold k_ok; omega) (by decide) (b := 30) (by decide)
  have w31 := r213c (scr := scr) (t := t) d hI hk hp (a := 44) (by unfold k_ok; omega) (by decide) (b := 31) (by decide)
  unfold k_df
  refine mg_me [] 60 my_243 ms_243 (Nat.le_of_ble_eq_true rfl) ?_
  repeat (first | refine ⟨_, mg_Fs rfl rfl, ?_⟩ | refine ⟨Or.inl rfl, ?_⟩ | refine ⟨Or.inr ⟨_, rfl⟩, ?_⟩ | refine ⟨fun _ => ?_, fun h => absurd h (by decide)⟩ | refine ⟨fun h => absurd h (by decide), fun _ => ?_⟩)
  refine mg_cv (w29) (by omega) ?_
  cases k_wd l p (k_str 29) with
  | true => exact ⟨fun _ => ⟨Or.inr rfl, rfl, rfl, rfl⟩, fun q => absurd q (by decide)⟩
  | false =>
    refine ⟨fun q => absurd rfl q, fun _ => ?_⟩
    repeat (first | refine ⟨_, mg_Fs rfl rfl, ?_⟩ | refine ⟨Or.inl rfl, ?_⟩ | refine ⟨Or.inr ⟨_, rfl⟩, ?_⟩ | refine ⟨fun _ => ?_, fun h => absurd h (by decide)⟩ | refine ⟨fun h => absurd h (by decide), fun _ => ?_⟩)
    refine mg_cv (w30) (by omega) ?_
    cases k_wd l p (k_str 30) with
    | true => exact ⟨fun _ => ⟨Or.inr rfl, rfl, rfl, rfl⟩, fun q => absurd q (by decide)⟩
    | false =>
      refine ⟨fun q => absurd rfl q, fun _ => ?_⟩
      repeat (first | refine ⟨_, mg_Fs rfl rfl, ?_⟩ | refine ⟨Or.inl rfl, ?_⟩ | refine ⟨Or.inr ⟨_, rfl⟩, ?_⟩ | refine ⟨fun _ => ?_, fun h => absurd h (by decide)⟩ | refine ⟨fun h => absurd h (by decide), fun _ => ?_⟩)
      refine mg_cv (w31) (by omega) ?_
      cases k_wd l p (k_str 31) with
      | true => exact ⟨fun q => absurd q (by decide), fun _ => ⟨Or.inr rfl, rfl, rfl, rfl⟩⟩
      | false => exact ⟨fun _ => ⟨Or.inr rfl, rfl, rfl, rfl⟩, fun q => absurd rfl q⟩
theorem r251 (d : Nat) (hI : rIn G l) (hk : rk G l p) (hp : p ≤ l.length) : mg_m (mg_KM scr t) (d + 7) 251 [.ref 148] G (mg_v (.int (b2 (k_sm l p))) G) := by
  have w32 := r213c (scr := scr) (t := t) d hI hk hp (a := 47) (by unfold k_ok; omega) (by decide) (b := 32) (by decide)
  have w33 := r213c (scr := scr) (t := t) d hI hk hp (a := 48) (by unfold k_ok; omega) (by decide) (b := 33) (by decide)
  have w34 := r213c (scr := scr) (t := t) d hI hk hp (a := 46) (by unfold k_ok; omega) (by decide) (b := 34) (by decide)
  have w35 := r213c (scr := scr) (t := t) d hI hk hp (a := 50) (by unfold k_ok; omega) (by decide) (b := 35) (by decide)
  have w36 := r213c (scr := scr) (t := t) d hI hk hp (a := 49) (by unfold k_ok; omega) (by decide) (b := 36) (by decide)
  have w0 := r243 (scr := scr) (t := t) d hI hk hp
  unfold k_sm
  refine mg_me [] 120 my_251 ms_251 (Nat.le_of_ble_eq_true rfl) ?_
  repeat (first | refine ⟨_, mg_Fs rfl rfl, ?_⟩ | refine ⟨Or.inl rfl, ?_⟩ | refine ⟨Or.inr ⟨_, rfl⟩, ?_⟩ | refine ⟨fun _ => ?_, fun h => absurd h (by decide)⟩ | refine ⟨fun h => absurd h (by decide), fun _ => ?_⟩)
  refine mg_cv (w0) (by omega) ?_
  cases k_df l p with
  | true => exact ⟨fun _ => ⟨Or.inr rfl, rfl, rfl, rfl⟩, fun q => absurd q (by decide)⟩
  | false =>
    refine ⟨fun q => absurd rfl q, fun _ => ?_⟩
    repeat (first | refine ⟨_, mg_Fs rfl rfl, ?_⟩ | refine ⟨Or.inl rfl, ?_⟩ | refine ⟨Or.inr ⟨_, rfl⟩, ?_⟩ | refine ⟨fun _ => ?_, fun h => absurd h (by decide)⟩ | refine ⟨fun h => absurd h (by decide), fun _ => ?_⟩)
    refine mg_cv (w32) (by omega) ?_
    cases k_wd l p (k_str 32) with
    | true => exact ⟨fun _ => ⟨Or.inr rfl, rfl, rfl, rfl⟩, fun q => absurd q (by decide)⟩
    | false =>
      refine ⟨fun q => absurd rfl q, fun _ => ?_⟩
      repeat (first | refine ⟨_, mg_Fs rfl rfl, ?_⟩ | refine ⟨Or.inl rfl, ?_⟩ | refine ⟨Or.inr ⟨_, rfl⟩, ?_⟩ | refine ⟨fun _ => ?_, fun h => absurd h (by decide)⟩ | refine ⟨fun h => absurd h (by decide), fun _ => ?_⟩)
      refine mg_cv (w33) (by omega) ?_
      cases k_wd l p (k_str 33) with
      | true => exact ⟨fun _ => ⟨Or.inr rfl, rfl, rfl, rfl⟩, fun q => absurd q (by decide)⟩
      | false =>
        refine ⟨fun q => absurd rfl q, fun _ => ?_⟩
        repeat (first | refine ⟨_, mg_Fs rfl rfl, ?_⟩ | refine ⟨Or.inl rfl, ?_⟩ | refine ⟨Or.inr ⟨_, rfl⟩, ?_⟩ | refine ⟨fun _ => ?_, fun h => absurd h (by decide)⟩ | refine ⟨fun h => absurd h (by decide), fun _ => ?_⟩)
        refine mg_cv (w34) (by omega) ?_
        cases k_wd l p (k_str 34) with
        | true => exact ⟨fun _ => ⟨Or.inr rfl, rfl, rfl, rfl⟩, fun q => absurd q (by decide)⟩
        | false =>
          refine ⟨fun q => absurd rfl q, fun _ => ?_⟩
          repeat (first | refine ⟨_, mg_Fs rfl rfl, ?_⟩ | refine ⟨Or.inl rfl, ?_⟩ | refine ⟨Or.inr ⟨_, rfl⟩, ?_⟩ | refine ⟨fun _ => ?_, fun h => absurd h (by decide)⟩ | refine ⟨fun h => absurd h (by decide), fun _ => ?_⟩)
          refine mg_cv (w35) (by omega) ?_
          cases k_wd l p (k_str 35) with
          | true => exact ⟨fun _ => ⟨Or.inr rfl, rfl, rfl, rfl⟩, fun q => absurd q (by decide)⟩
          | false =>
            refine ⟨fun q => absurd rfl q, fun _ => ?_⟩
            repeat (first | refine ⟨_, mg_Fs rfl rfl, ?_⟩ | refine ⟨Or.inl rfl, ?_⟩ | refine ⟨Or.inr ⟨_, rfl⟩, ?_⟩ | refine ⟨fun _ => ?_, fun h => absurd h (by decide)⟩ | refine ⟨fun h => absurd h (by decide), fun _ => ?_⟩)
            refine mg_cv (w36) (by omega) ?_
            cases k_wd l p (k_str 36) with
            | true => exact ⟨fun q => absurd q (by decide), fun _ => ⟨Or.inr rfl, rfl, rfl, rfl⟩⟩
            | false => exact ⟨fun _ => ⟨Or.inr rfl, rfl, rfl, rfl⟩, fun q => absurd rfl q⟩
end RM
