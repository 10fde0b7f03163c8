/-! REFERENCE, small methods (176 to 199) -/
abbrev mg_sF (G : mg_G) (a k : Nat) (v : Value) : mg_G := (G.1, G.2.1, G.2.2.1, G.2.2.2.1, mg_u2 G.2.2.2.2 a k v)
abbrev mg_sI (G : mg_G) (a k : Nat) (x : Int32) : mg_G := (mg_u2 G.1 a k x, G.2)
abbrev mg_sJ (G : mg_G) (a k : Nat) (x : Int64) : mg_G := (G.1, mg_u2 G.2.1 a k x, G.2.2)
theorem mg_Fw {K : mg_K} {G : mg_G} {a c k : Nat} {T : List (Option Value)} {v : Value} (h : K.2[a]? = some (.inr (c, T))) (h2 : T[k]? = some none) : mg_F K (mg_sF G a k v) a c k v := mg_Fe ((mg_u2_at _ _ _ _ _ _).trans (if_pos ⟨rfl, rfl⟩)) h h2
theorem mg_Fo {K : mg_K} {G : mg_G} {a c k a' k' : Nat} {v w : Value} (hn : ¬ (a = a' ∧ k = k')) (h : mg_F K G a c k v) : mg_F K (mg_sF G a' k' w) a c k v := by
  obtain ⟨T, h1, h2⟩ := h
  exact ⟨T, h1, h2.imp id (fun q => ⟨q.1, by rw [q.2]; exact ((mg_u2_at _ _ _ _ _ _).trans (if_neg hn)).symm⟩)⟩
/-- a table: its four words -/
abbrev a_T : Type := Int64 × Int64 × Int64 × Int64
def a_pick (T : a_T) (w : Int32) : Int64 := if w = 0 then T.1 else if w = 1 then T.2.1 else if w = 2 then T.2.2.1 else T.2.2.2
def a_fail (a b c : Int32) : Int32 := if a ≠ 0 then 1 else if b ≠ 0 then 2 else if c ≠ 0 then 3 else 0
section RM
variable {scr : Nat × (Nat → Int32)} {t : List mg_S}
theorem r177 {K : mg_K} (d : Nat) (v lo hi : Int32) (G : mg_G) : mg_m K (d + 1) 177 [.int v, .int lo, .int hi] G (mg_v (.int (if lo ≤ v ∧ v ≤ hi then 1 else 0)) G) := by
  refine mg_me [] 20 my_177 ms_177 (Nat.le_of_ble_eq_true rfl) ?_
  refine ⟨fun h => ?_, fun h => ⟨fun h2 => ?_, fun h2 => ?_⟩⟩
  · refine ⟨Or.inr rfl, ?_, rfl, rfl⟩
    rw [if_neg (fun h3 => Int32.not_lt.mpr h3.1 h)]
    rfl
  · refine ⟨Or.inr rfl, ?_, rfl, rfl⟩
    rw [if_neg (fun h3 => Int32.not_lt.mpr h3.2 h2)]
    rfl
  · refine ⟨Or.inr rfl, ?_, rfl, rfl⟩
    rw [if_pos ⟨h, h2⟩]
    rfl
theorem r176 (d : Nat) (a b c : Int32) (G : mg_G) : mg_m (mg_KM scr t) (d + 1) 176 [.ref 148, .int a, .int b, .int c] G (mg_v (.int (if a_fail a b c = 0 then 0 else 1)) (mg_sF G 148 10 (.int (a_fail a b c)))) := by
  refine mg_me [] 30 my_176 ms_176 (Nat.le_of_ble_eq_true rfl) ?_
  refine ⟨fun ha => ?_, fun ha => ?_⟩
  · refine ⟨fun hb => ?_, fun hb => ?_⟩
    · refine ⟨fun hc => ?_, fun hc => ?_⟩
      · have e : a_fail a b c = 0 := by simp only [a_fail, show a = 0 from ha, show b = 0 from hb, show c = 0 from hc, ne_eq, not_true, if_false]
        refine ⟨rfl, _, rfl, rfl, _, mg_Fw rfl rfl, fun _ => ?_, fun h => absurd h (by decide)⟩
        exact ⟨Or.inr rfl, by rw [e]; rfl, rfl, by rw [e]; rfl⟩
      · have e : a_fail a b c = 3 := by simp only [a_fail, show a = 0 from ha, show b = 0 from hb, show ¬ c = 0 from hc, ne_eq, not_true, if_false, not_false_eq_true, if_true]
        refine ⟨rfl, _, rfl, rfl, _, mg_Fw rfl rfl, fun h => absurd h (by decide), fun _ => ?_⟩
        exact ⟨Or.inr rfl, by rw [e]; rfl, rfl, by rw [e]; rfl⟩
    · have e : a_fail a b c = 2 := by simp only [a_fail, show a = 0 from ha, show ¬ b = 0 from hb, ne_eq, not_true, if_false, not_false_eq_true, if_true]
      refine ⟨rfl, _, rfl, rfl, _, mg_Fw rfl rfl, fun h => absurd h (by decide), fun _ => ?_⟩
      exact ⟨Or.inr rfl, by rw [e]; rfl, rfl, by rw [e]; rfl⟩
  · have e : a_fail a b c = 1 := by simp only [a_fail, show ¬ a = 0 from ha, ne_eq, not_false_eq_true, if_true]
    refine ⟨rfl, _, rfl, rfl, _, mg_Fw rfl rfl, fun h => absurd h (by decide), fun _ => ?_⟩
    exact ⟨Or.inr rfl, by rw [e]; rfl, rfl, by rw [e]; rfl⟩
theorem r178 (d : Nat) (G : mg_G) : mg_m (mg_KM scr t) (d + 1) 178 [.ref 148] G (mg_v (.int (G.1 149 0)) G) := by
  refine mg_me [] 20 my_178 ms_178 (Nat.le_of_ble_eq_true rfl) ?_
  repeat (first | refine ⟨_, mg_Fs rfl rfl, ?_⟩ | refine ⟨_, mg_Fd rfl rfl, ?_⟩ | refine ⟨Or.inl rfl, ?_⟩ | refine ⟨Or.inr ⟨_, rfl⟩, ?_⟩)
  refine ⟨_, _, 0, mg_Ai rfl (by decide), ⟨by decide, by decide⟩, by decide, ?_⟩
  exact ⟨Or.inl rfl, rfl, rfl, rfl⟩
theorem r179 (d : Nat) (G : mg_G) : mg_m (mg_KM scr t) (d + 1) 179 [.ref 148] G (mg_v (.int (G.1 149 1)) G) := by
  refine mg_me [] 20 my_179 ms_179 (Nat.le_of_ble_eq_true rfl) ?_
  repeat (first | refine ⟨_, mg_Fs rfl rfl, ?_⟩ | refine ⟨_, mg_Fd rfl rfl, ?_⟩ | refine ⟨Or.inl rfl, ?_⟩ | refine ⟨Or.inr ⟨_, rfl⟩, ?_⟩)
  refine ⟨_, _, 1, mg_Ai rfl (by decide), ⟨by decide, by decide⟩, by decide, ?_⟩
  exact ⟨Or.inl rfl, rfl, rfl, rfl⟩
def a_in (v lo hi : Int32) : Int32 := if lo ≤ v ∧ v ≤ hi then 1 else 0
theorem a_in_b (v lo hi : Int32) : a_in v lo hi = 0 ∨ a_in v lo hi = 1 := by
  unfold a_in
  split
  · exact Or.inr rfl
  · exact Or.inl rfl
theorem r180 (d : Nat) (v : Int32) (G : mg_G) : mg_m (mg_KM scr t) (d + 2) 180 [.ref 148, .int v] G (mg_v (.int (a_in v 0 (G.1 149 0 - 1))) G) := by
  refine mg_me [] 20 my_180 ms_180 (Nat.le_of_ble_eq_true rfl) ?_
  repeat (first | refine ⟨_, mg_Fs rfl rfl, ?_⟩ | refine ⟨_, mg_Fd rfl rfl, ?_⟩ | refine ⟨Or.inl rfl, ?_⟩ | refine ⟨Or.inr ⟨_, rfl⟩, ?_⟩)
  refine mg_cv (r178 d G) (by omega) ?_
  repeat (first | refine ⟨_, mg_Fs rfl rfl, ?_⟩ | refine ⟨_, mg_Fd rfl rfl, ?_⟩ | refine ⟨Or.inl rfl, ?_⟩ | refine ⟨Or.inr ⟨_, rfl⟩, ?_⟩)
  refine mg_cv (r177 d v 0 (G.1 149 0 - 1) G) (by omega) ?_
  exact ⟨Or.inr (mg_bnar _ (a_in_b _ _ _)), rfl, rfl, rfl⟩
theorem r181 (d : Nat) (v : Int32) (G : mg_G) : mg_m (mg_KM scr t) (d + 2) 181 [.ref 148, .int v] G (mg_v (.int (a_in v 0 (G.1 149 1 - 1))) G) := by
  refine mg_me [] 20 my_181 ms_181 (Nat.le_of_ble_eq_true rfl) ?_
  repeat (first | refine ⟨_, mg_Fs rfl rfl, ?_⟩ | refine ⟨_, mg_Fd rfl rfl, ?_⟩ | refine ⟨Or.inl rfl, ?_⟩ | refine ⟨Or.inr ⟨_, rfl⟩, ?_⟩)
  refine mg_cv (r179 d G) (by omega) ?_
  repeat (first | refine ⟨_, mg_Fs rfl rfl, ?_⟩ | refine ⟨_, mg_Fd rfl rfl, ?_⟩ | refine ⟨Or.inl rfl, ?_⟩ | refine ⟨Or.inr ⟨_, rfl⟩, ?_⟩)
  refine mg_cv (r177 d v 0 (G.1 149 1 - 1) G) (by omega) ?_
  exact ⟨Or.inr (mg_bnar _ (a_in_b _ _ _)), rfl, rfl, rfl⟩
theorem r182 (d : Nat) (v : Int32) (G : mg_G) : mg_m (mg_KM scr t) (d + 2) 182 [.ref 148, .int v] G (mg_v (.int (a_in v 0 (G.1 149 0 - 1))) G) := by
  refine mg_me [] 20 my_182 ms_182 (Nat.le_of_ble_eq_true rfl) ?_
  repeat (first | refine ⟨_, mg_Fs rfl rfl, ?_⟩ | refine ⟨_, mg_Fd rfl rfl, ?_⟩ | refine ⟨Or.inl rfl, ?_⟩ | refine ⟨Or.inr ⟨_, rfl⟩, ?_⟩)
  refine mg_cv (r178 d G) (by omega) ?_
  repeat (first | refine ⟨_, mg_Fs rfl rfl, ?_⟩ | refine ⟨_, mg_Fd rfl rfl, ?_⟩ | refine ⟨Or.inl rfl, ?_⟩ | refine ⟨Or.inr ⟨_, rfl⟩, ?_⟩)
  refine mg_cv (r177 d v 0 (G.1 149 0 - 1) G) (by omega) ?_
  exact ⟨Or.inr (mg_bnar _ (a_in_b _ _ _)), rfl, rfl, rfl⟩
theorem r183 (d : Nat) (G : mg_G) : mg_m (mg_KM scr t) (d + 2) 183 [.ref 148] G (mg_v (.int (1 <<< (G.1 149 0 &&& 31))) G) := by
  refine mg_me [] 20 my_183 ms_183 (Nat.le_of_ble_eq_true rfl) ?_
  repeat (first | refine ⟨_, mg_Fs rfl rfl, ?_⟩ | refine ⟨_, mg_Fd rfl rfl, ?_⟩ | refine ⟨Or.inl rfl, ?_⟩ | refine ⟨Or.inr ⟨_, rfl⟩, ?_⟩)
  refine mg_cv (r178 d G) (by omega) ?_
  exact ⟨Or.inl rfl, rfl, rfl, rfl⟩
theorem r187 {K : mg_K} (d : Nat) (a b c e : Int64) (w : Int32) (G : mg_G) : mg_m K (d + 1) 187 [.long a, .long b, .long c, .long e, .int w] G (mg_v (.long (a_pick (a, b, c, e) w)) G) := by
  refine mg_me [] 20 my_187 ms_187 (Nat.le_of_ble_eq_true rfl) ?_
  refine ⟨fun h => ⟨fun h2 => ⟨fun h3 => ?_, fun h3 => ?_⟩, fun h2 => ?_⟩, fun h => ?_⟩
  · exact ⟨by unfold a_pick; rw [if_neg h, if_neg (show ¬ w = 1 from h2), if_neg (show ¬ w = 2 from h3)], rfl, rfl⟩
  · exact ⟨by unfold a_pick; rw [if_neg h, if_neg (show ¬ w = 1 from h2), if_pos (show w = 2 from h3)], rfl, rfl⟩
  · exact ⟨by unfold a_pick; rw [if_neg h, if_pos (show w = 1 from h2)], rfl, rfl⟩
  · exact ⟨by unfold a_pick; rw [if_pos h], rfl, rfl⟩
theorem r189 (d f w : Nat) (h : 4 * f + w < 576) (G : mg_G) : mg_m (mg_KM scr t) (d + 1) 189 [.ref 148, .int (Int32.ofNat f), .int (Int32.ofNat w)] G (mg_v (.long (G.2.1 150 (4 * f + w))) G) := by
  refine mg_me [] 20 my_189 ms_189 (Nat.le_of_ble_eq_true rfl) ?_
  repeat (first | refine ⟨_, mg_Fs rfl rfl, ?_⟩ | refine ⟨_, mg_Fd rfl rfl, ?_⟩ | refine ⟨Or.inl rfl, ?_⟩ | refine ⟨Or.inr ⟨_, rfl⟩, ?_⟩)
  refine ⟨_, _, 4 * f + w, mg_Al rfl (by decide), mg_ixE (by rw [Int32.ofNat_add, Int32.ofNat_mul]; rfl) (by omega), h, ?_⟩
  exact ⟨rfl, rfl, rfl⟩
def a_left (m : Nat → Int64) (T : a_T) (v x w : Int32) : Int64 :=
  if v < 6 then (if x = 1 then (a_pick T w &&& m v.toNatClampNeg) ||| ((a_pick T w &&& m v.toNatClampNeg).toUInt64 >>> (((1 : Int32) <<< (v &&& 31)).toInt64.toUInt64 &&& Int64.toUInt64 63)).toInt64
    else (a_pick T w &&& (m v.toNatClampNeg ^^^ (-1 : Int64))) ||| ((a_pick T w &&& (m v.toNatClampNeg ^^^ (-1 : Int64))) <<< (((1 : Int32) <<< (v &&& 31)).toInt64 &&& 63)))
  else a_pick T (if x = 1 then w ||| ((1 : Int32) <<< ((v - 6) &&& 31)) else w &&& (((1 : Int32) <<< ((v - 6) &&& 31)) ^^^ (-1 : Int32)))
theorem r188 (d : Nat) (a b c e : Int64) (v x w : Int32) (hv : 0 ≤ v) (G : mg_G) : mg_m (mg_KM scr t) (d + 2) 188 [.ref 148, .long a, .long b, .long c, .long e, .int v, .int x, .int w] G (mg_v (.long (a_left (G.2.1 154) (a, b, c, e) v x w)) G) := by
  refine mg_me [] 80 my_188 ms_188 (Nat.le_of_ble_eq_true rfl) ?_
  have hix : v < 6 → mg_ix v v.toNatClampNeg ∧ v.toNatClampNeg < 6 := by
    intro h
    have h1 := Int32.le_iff_toInt_le.mp hv
    have h2 := Int32.lt_iff_toInt_lt.mp h
    have h3 : (0 : Int32).toInt = 0 := by decide
    have h4 : (6 : Int32).toInt = 6 := by decide
    refine ⟨⟨Int32.not_lt.mpr hv, rfl⟩, ?_⟩
    rw [Int32.toNatClampNeg]
    omega
  refine ⟨fun h => ?_, fun h => ?_⟩
  · refine ⟨Or.inl rfl, mg_cv (r187 d a b c e w G) (by omega) ?_⟩
    refine ⟨fun h2 => ?_, fun h2 => ?_⟩
    · repeat (first | refine ⟨_, mg_Fs rfl rfl, ?_⟩ | refine ⟨_, mg_Fd rfl rfl, ?_⟩ | refine ⟨Or.inl rfl, ?_⟩ | refine ⟨Or.inr ⟨_, rfl⟩, ?_⟩)
      refine ⟨_, _, _, mg_Al rfl (by decide), (hix h).1, (hix h).2, ?_⟩
      exact ⟨by unfold a_left; rw [if_pos (show v < 6 from h), if_neg (show ¬ x = 1 from h2)]; rfl, rfl, rfl⟩
    · repeat (first | refine ⟨_, mg_Fs rfl rfl, ?_⟩ | refine ⟨_, mg_Fd rfl rfl, ?_⟩ | refine ⟨Or.inl rfl, ?_⟩ | refine ⟨Or.inr ⟨_, rfl⟩, ?_⟩)
      refine ⟨_, _, _, mg_Al rfl (by decide), (hix h).1, (hix h).2, ?_⟩
      exact ⟨by unfold a_left; rw [if_pos (show v < 6 from h), if_pos (show x = 1 from h2)]; rfl, rfl, rfl⟩
  · refine ⟨fun h2 => ?_, fun h2 => ?_⟩
    · refine ⟨Or.inl rfl, mg_cv (r187 d a b c e _ G) (by omega) ?_⟩
      exact ⟨by unfold a_left; rw [if_neg (Int32.not_lt.mpr (show 6 ≤ v from h)), if_neg (show ¬ x = 1 from h2)]; rfl, rfl, rfl⟩
    · refine ⟨Or.inl rfl, mg_cv (r187 d a b c e _ G) (by omega) ?_⟩
      exact ⟨by unfold a_left; rw [if_neg (Int32.not_lt.mpr (show 6 ≤ v from h)), if_pos (show x = 1 from h2)]; rfl, rfl, rfl⟩
def a_tb (G : mg_G) (f : Nat) : a_T := (G.2.1 150 (4 * f), G.2.1 150 (4 * f + 1), G.2.1 150 (4 * f + 2), G.2.1 150 (4 * f + 3))
theorem r190 (d f : Nat) (hf : f < 144) (v x w : Int32) (hv : 0 ≤ v) (G : mg_G) : mg_m (mg_KM scr t) (d + 3) 190 [.ref 148, .int (Int32.ofNat f), .int v, .int x, .int w] G (mg_v (.long (a_left (G.2.1 154) (a_tb G f) v x w)) G) := by
  refine mg_me [] 80 my_190 ms_190 (Nat.le_of_ble_eq_true rfl) ?_
  repeat (first | refine ⟨_, mg_Fs rfl rfl, ?_⟩ | refine ⟨_, mg_Fd rfl rfl, ?_⟩ | refine ⟨Or.inl rfl, ?_⟩ | refine ⟨Or.inr ⟨_, rfl⟩, ?_⟩)
  refine mg_cv (r189 (d + 1) f 0 (by omega) G) (by omega) ?_
  repeat (first | refine ⟨_, mg_Fs rfl rfl, ?_⟩ | refine ⟨_, mg_Fd rfl rfl, ?_⟩ | refine ⟨Or.inl rfl, ?_⟩ | refine ⟨Or.inr ⟨_, rfl⟩, ?_⟩)
  refine mg_cv (r189 (d + 1) f 1 (by omega) G) (by omega) ?_
  repeat (first | refine ⟨_, mg_Fs rfl rfl, ?_⟩ | refine ⟨_, mg_Fd rfl rfl, ?_⟩ | refine ⟨Or.inl rfl, ?_⟩ | refine ⟨Or.inr ⟨_, rfl⟩, ?_⟩)
  refine mg_cv (r189 (d + 1) f 2 (by omega) G) (by omega) ?_
  repeat (first | refine ⟨_, mg_Fs rfl rfl, ?_⟩ | refine ⟨_, mg_Fd rfl rfl, ?_⟩ | refine ⟨Or.inl rfl, ?_⟩ | refine ⟨Or.inr ⟨_, rfl⟩, ?_⟩)
  refine mg_cv (r189 (d + 1) f 3 (by omega) G) (by omega) ?_
  repeat (first | refine ⟨_, mg_Fs rfl rfl, ?_⟩ | refine ⟨_, mg_Fd rfl rfl, ?_⟩ | refine ⟨Or.inl rfl, ?_⟩ | refine ⟨Or.inr ⟨_, rfl⟩, ?_⟩)
  refine mg_cv (r188 d _ _ _ _ v x w hv G) (by omega) ?_
  exact ⟨rfl, rfl, rfl⟩
end RM
