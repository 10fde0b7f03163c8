def k_str (a : Nat) : List Nat := (((mm_STB[a]?).map (fun q => q.2.2.2)).getD []).map (fun x => x.toNatClampNeg)
theorem mg_ch : ∀ c, c < 256 → narrow .char (Value.int (Int32.ofNat c)) = Value.int (Int32.ofNat c) := by
  intro c hc
  have h : ∀ c, c < 256 → (match narrow .char (Value.int (Int32.ofNat c)) with | .int x => x | _ => 0) = Int32.ofNat c := by decide +kernel
  exact congrArg Value.int (h c hc)
theorem mg_ch2 : ∀ c, c < 256 → ((Int32.ofNat c).toUInt32 % 65536).toInt32 = Int32.ofNat c := by decide +kernel
section KC
variable {K : mg_K} {G : mg_G}
theorem j342 (d : Nat) {i n : Nat} (h : i < n) (hn : n < 2147483648) : mg_m K (d + 1) 342 [.int (Int32.ofNat i), .int (Int32.ofNat n), .retAddr 0] G (mg_v (.int (Int32.ofNat i)) G) := by
  refine mg_me [] 20 my_342 ms_342 (Nat.le_of_ble_eq_true rfl) ?_
  exact ⟨fun h => absurd h (mg_nl0 (by omega)), fun _ => ⟨fun _ => ⟨Or.inl rfl, rfl, rfl, rfl⟩, fun q => absurd q (mg_nle h (by omega))⟩⟩
theorem j335 (d : Nat) {i n : Nat} (h : i < n) (hn : n < 2147483648) : mg_m K (d + 2) 335 [.int (Int32.ofNat i), .int (Int32.ofNat n)] G (mg_n G) := by
  refine mg_me [] 20 my_335 ms_335 (Nat.le_of_ble_eq_true rfl) ?_
  repeat (first | refine ⟨_, mg_Fs rfl rfl, ?_⟩ | refine ⟨Or.inl rfl, ?_⟩ | refine ⟨Or.inr ⟨_, rfl⟩, ?_⟩ | refine ⟨fun _ => ?_, fun h => absurd h (by decide)⟩ | refine ⟨fun h => absurd h (by decide), fun _ => ?_⟩)
  refine mg_cv (j342 d h hn) (by omega) ?_
  exact ⟨rfl, rfl, rfl⟩
theorem j336 (d : Nat) {b n : Nat} {f : Nat → Int32} (hA : mg_A K G b 2 n (.inl f)) (hn : n < 2147483648) {i c : Nat} (hi : i < n) (hc : f i &&& (Int16.ofInt 255).toInt32 = Int32.ofNat c) (hc2 : c < 256) : mg_m K (d + 3) 336 [.ref b, .int (Int32.ofNat i)] G (mg_v (.int (Int32.ofNat c)) G) := by
  refine mg_me [] 20 my_336 ms_336 (Nat.le_of_ble_eq_true rfl) ?_
  refine ⟨2, _, _, hA, by decide, ?_⟩
  repeat (first | refine ⟨_, mg_Fs rfl rfl, ?_⟩ | refine ⟨Or.inl rfl, ?_⟩ | refine ⟨Or.inr ⟨_, rfl⟩, ?_⟩ | refine ⟨fun _ => ?_, fun h => absurd h (by decide)⟩ | refine ⟨fun h => absurd h (by decide), fun _ => ?_⟩)
  refine mg_cn (j335 d hi hn) (by omega) ?_
  refine ⟨2, _, _, i, hA, Or.inl rfl, mg_ixN (by omega), hi, ?_⟩
  have e : ((f i &&& (Int16.ofInt 255).toInt32).toUInt32 % 65536).toInt32 = Int32.ofNat c := by rw [hc]; exact mg_ch2 c hc2
  refine ⟨Or.inr ?_, ?_, rfl, rfl⟩
  · exact (congrArg (fun x => narrow .char (Value.int x)) e).trans ((mg_ch c hc2).trans (congrArg Value.int e.symm))
  · exact congrArg (fun x => (Sum.inl (some (Value.int x)) : Option Value ⊕ String)) e
/-- the strings that are words or signs -/
def k_ok (a : Nat) : Prop := a = 28 ∨ a = 29 ∨ a = 30 ∨ a = 31 ∨ a = 32 ∨ a = 33 ∨ a = 34 ∨ a = 35 ∨ a = 36 ∨ a = 37 ∨ a = 39 ∨ a = 40 ∨ a = 41 ∨ a = 42 ∨ a = 43 ∨ a = 44 ∨ a = 45 ∨ a = 46 ∨ a = 47 ∨ a = 48 ∨ a = 49 ∨ a = 50
theorem j333 (d : Nat) {a : Nat} (ha : k_ok a) : mg_m K (d + 1) 333 [.ref (2000000 + a)] G (mg_v (.int 0) G) := by
  rcases ha with rfl | rfl | rfl | rfl | rfl | rfl | rfl | rfl | rfl | rfl | rfl | rfl | rfl | rfl | rfl | rfl | rfl | rfl | rfl | rfl | rfl | rfl <;> (
    refine mg_me [] 20 my_333 ms_333 (Nat.le_of_ble_eq_true rfl) ?_
    repeat (first | refine ⟨_, mg_Fs rfl rfl, ?_⟩ | refine ⟨Or.inl rfl, ?_⟩ | refine ⟨Or.inr ⟨_, rfl⟩, ?_⟩ | refine ⟨fun _ => ?_, fun h => absurd h (by decide)⟩ | refine ⟨fun h => absurd h (by decide), fun _ => ?_⟩)
    exact ⟨Or.inr rfl, rfl, rfl, rfl⟩)
theorem j334 (d : Nat) {a : Nat} (ha : k_ok a) : mg_m K (d + 1) 334 [.ref (2000000 + a)] G (mg_v (.int 1) G) := by
  rcases ha with rfl | rfl | rfl | rfl | rfl | rfl | rfl | rfl | rfl | rfl | rfl | rfl | rfl | rfl | rfl | rfl | rfl | rfl | rfl | rfl | rfl | rfl <;> (
    refine mg_me [] 20 my_334 ms_334 (Nat.le_of_ble_eq_true rfl) ?_
    repeat (first | refine ⟨_, mg_Fs rfl rfl, ?_⟩ | refine ⟨Or.inl rfl, ?_⟩ | refine ⟨Or.inr ⟨_, rfl⟩, ?_⟩ | refine ⟨fun _ => ?_, fun h => absurd h (by decide)⟩ | refine ⟨fun h => absurd h (by decide), fun _ => ?_⟩)
    exact ⟨Or.inr rfl, rfl, rfl, rfl⟩)
theorem j331 (d : Nat) {a : Nat} (ha : k_ok a) : mg_m K (d + 2) 331 [.ref (2000000 + a)] G (mg_v (.int (Int32.ofNat (k_str a).length)) G) := by
  have h := j333 (K := K) (G := G) d ha
  rcases ha with rfl | rfl | rfl | rfl | rfl | rfl | rfl | rfl | rfl | rfl | rfl | rfl | rfl | rfl | rfl | rfl | rfl | rfl | rfl | rfl | rfl | rfl <;> (
    refine mg_me [] 20 my_331 ms_331 (Nat.le_of_ble_eq_true rfl) ?_
    refine ⟨2, _, _, mg_Ao rfl (by decide), by decide, ?_⟩
    refine ⟨Or.inr rfl, mg_cv h (by omega) ?_⟩
    exact ⟨Or.inl rfl, rfl, rfl, rfl⟩)
theorem j332 (d : Nat) {a : Nat} (ha : k_ok a) {i : Nat} (hi : i < (k_str a).length) : mg_m K (d + 4) 332 [.ref (2000000 + a), .int (Int32.ofNat i)] G (mg_v (.int (Int32.ofNat ((k_str a).getD i 0))) G) := by
  have h := j334 (K := K) (G := G) d ha
  obtain ⟨c, hc⟩ : ∃ c, c = (k_str a).getD i 0 := ⟨_, rfl⟩
  rw [← hc]
  rcases ha with rfl | rfl | rfl | rfl | rfl | rfl | rfl | rfl | rfl | rfl | rfl | rfl | rfl | rfl | rfl | rfl | rfl | rfl | rfl | rfl | rfl | rfl <;> (
    refine mg_me [] 20 my_332 ms_332 (Nat.le_of_ble_eq_true rfl) ?_
    refine ⟨Or.inr rfl, mg_cv h (by omega) ?_⟩
    repeat (first | refine ⟨_, mg_Fs rfl rfl, ?_⟩ | refine ⟨Or.inl rfl, ?_⟩ | refine ⟨Or.inr ⟨_, rfl⟩, ?_⟩ | refine ⟨fun _ => ?_, fun h => absurd h (by decide)⟩ | refine ⟨fun h => absurd h (by decide), fun _ => ?_⟩)
    refine mg_cv (j336 d (mg_Ao rfl (by decide)) (by decide) hi (c := c) ?_ ?_) (by omega) ?_
    · subst hc
      clear h
      revert i
      decide
    · subst hc
      clear h
      revert i
      decide
    · exact ⟨Or.inr (mg_ch _ (by subst hc; clear h; revert i; decide)), rfl, rfl, rfl⟩)
end KC
