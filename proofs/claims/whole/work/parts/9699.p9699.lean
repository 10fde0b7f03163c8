/-! TOKENS (pure) -/
/-- how many bytes from p on are P -/
def k_run (P : Nat → Bool) (l : List Nat) (p : Nat) : Nat := ((l.drop p).takeWhile P).length
theorem k_run_0 {P : Nat → Bool} {l : List Nat} {p : Nat} (h : l.length ≤ p) : k_run P l p = 0 := by
  unfold k_run
  rw [List.drop_eq_nil_of_le h]
  rfl
theorem k_run_n {P : Nat → Bool} {l : List Nat} {p c : Nat} (h : l[p]? = some c) (hP : P c = false) : k_run P l p = 0 := by
  have hp := (List.getElem?_eq_some_iff.mp h).1
  unfold k_run
  rw [List.drop_eq_getElem_cons hp, (List.getElem?_eq_some_iff.mp h).2, List.takeWhile_cons, hP]
  rfl
theorem k_run_y {P : Nat → Bool} {l : List Nat} {p c : Nat} (h : l[p]? = some c) (hP : P c = true) : k_run P l p = k_run P l (p + 1) + 1 := by
  have hp := (List.getElem?_eq_some_iff.mp h).1
  unfold k_run
  rw [List.drop_eq_getElem_cons hp, (List.getElem?_eq_some_iff.mp h).2, List.takeWhile_cons, hP]
  rfl
theorem k_run_le (P : Nat → Bool) (l : List Nat) (p : Nat) (hp : p ≤ l.length) : p + k_run P l p ≤ l.length := by
  unfold k_run
  have := (List.takeWhile_sublist P (l := l.drop p)).length_le
  rw [List.length_drop] at this
  omega
/-- inside the run, and at its end -/
theorem k_run_at {P : Nat → Bool} {l : List Nat} : ∀ {j p : Nat}, j < k_run P l p → ∃ c, l[p + j]? = some c ∧ P c = true := by
  intro j
  induction j with
  | zero =>
    intro p h
    by_cases hp : p < l.length
    · cases hP : P l[p] with
      | false => rw [k_run_n (List.getElem?_eq_getElem hp) hP] at h; exact absurd h (Nat.not_lt_zero 0)
      | true => exact ⟨l[p], List.getElem?_eq_getElem hp, hP⟩
    · rw [k_run_0 (by omega)] at h
      exact absurd h (Nat.not_lt_zero 0)
  | succ j ih =>
    intro p h
    by_cases hp : p < l.length
    · cases hP : P l[p] with
      | false => rw [k_run_n (List.getElem?_eq_getElem hp) hP] at h; exact absurd h (Nat.not_lt_zero _)
      | true =>
        rw [k_run_y (List.getElem?_eq_getElem hp) hP] at h
        obtain ⟨c, h1, h2⟩ := ih (p := p + 1) (by omega)
        exact ⟨c, by rw [show p + (j + 1) = p + 1 + j by omega]; exact h1, h2⟩
    · rw [k_run_0 (by omega)] at h
      exact absurd h (Nat.not_lt_zero _)
theorem k_run_end {P : Nat → Bool} {l : List Nat} : ∀ (n p : Nat), k_run P l p = n → ∀ c, l[p + n]? = some c → P c = false := by
  intro n
  induction n with
  | zero =>
    intro p h c hc
    cases hP : P c with
    | false => rfl
    | true =>
      rw [Nat.add_zero] at hc
      rw [k_run_y hc hP] at h
      cases h
  | succ n ih =>
    intro p h c hc
    obtain ⟨c2, h1, h2⟩ := k_run_at (P := P) (l := l) (p := p) (j := 0) (by omega)
    rw [Nat.add_zero] at h1
    rw [k_run_y h1 h2] at h
    exact ih (p + 1) (by omega) c (by rw [show p + 1 + n = p + (n + 1) by omega]; exact hc)
abbrev kSp : Nat → Bool := fun c => c == 32 || c == 10
abbrev kLt : Nat → Bool := fun c => decide (97 ≤ c) && decide (c ≤ 122)
abbrev kDg : Nat → Bool := fun c => decide (48 ≤ c) && decide (c ≤ 57)
/-- the token behind place p: where it starts, its kind, where it ends, its word, its number -/
def k_S (l : List Nat) (p : Nat) : Nat := p + k_run kSp l p
def k_a (l : List Nat) (p : Nat) : Nat := k_run kLt l (k_S l p)
def k_b (l : List Nat) (p : Nat) : Nat := k_run kDg l (k_S l p)
def k_K (l : List Nat) (p : Nat) : Nat := if 0 < k_a l p then (if k_a l p ≤ 7 then 1 else 4) else if 0 < k_b l p then (if k_b l p ≤ 3 then 2 else 4) else if k_S l p < l.length then 3 else 0
def k_E (l : List Nat) (p : Nat) : Nat := if 0 < k_a l p then k_S l p + k_a l p else if 0 < k_b l p then k_S l p + k_b l p else if k_S l p < l.length then k_S l p + 1 else k_S l p
def k_W (l : List Nat) (p : Nat) : List Nat := (l.drop (k_S l p)).take (k_a l p)
def k_num (l : List Nat) : Nat := l.foldl (fun a c => a * 10 + (c - 48)) 0
def k_N (l : List Nat) (p : Nat) : Nat := k_num ((l.drop (k_S l p)).take (k_b l p))
theorem k_S_le {l : List Nat} {p : Nat} (hp : p ≤ l.length) : k_S l p ≤ l.length := k_run_le kSp l p hp
theorem k_S_ge (l : List Nat) (p : Nat) : p ≤ k_S l p := Nat.le_add_right _ _
theorem k_E_le {l : List Nat} {p : Nat} (hp : p ≤ l.length) : k_E l p ≤ l.length := by
  have h1 := k_S_le hp
  have h2 : k_S l p + k_a l p ≤ l.length := k_run_le kLt l _ h1
  have h3 : k_S l p + k_b l p ≤ l.length := k_run_le kDg l _ h1
  unfold k_E
  split
  · exact h2
  · split
    · exact h3
    · split <;> omega
theorem k_E_ge (l : List Nat) (p : Nat) : k_S l p ≤ k_E l p := by
  unfold k_E
  split
  · omega
  · split
    · omega
    · split <;> omega
/-- a token that is one takes at least a byte -/
theorem k_E_lt {l : List Nat} {p : Nat} (h : k_K l p ≠ 0) : k_S l p < k_E l p := by
  unfold k_K at h
  unfold k_E
  split at h
  · split <;> omega
  · rw [if_neg (by assumption)]
    split at h
    · rw [if_pos (by assumption)]; omega
    · rw [if_neg (by assumption)]
      split at h
      · rw [if_pos (by assumption)]; omega
      · exact absurd rfl h
theorem k_num_s (l : List Nat) (c : Nat) : k_num (l ++ [c]) = k_num l * 10 + (c - 48) := by
  unfold k_num
  rw [List.foldl_append]
  rfl
theorem k_num_lt : ∀ l : List Nat, (∀ c, c ∈ l → c ≤ 57) → k_num l < 10 ^ l.length := by
  refine a_snoc (fun _ => by decide) (fun l c ih h => ?_)
  have h1 := ih (fun x hx => h x (List.mem_append_left _ hx))
  have h2 := h c (List.mem_append_right _ List.mem_cons_self)
  rw [k_num_s, List.length_append, List.length_singleton, Nat.pow_succ]
  omega
/-- a run, its bytes one by one -/
theorem k_take_s {P : Nat → Bool} {l : List Nat} {p k : Nat} (h : k < k_run P l p) : ∃ c, l[p + k]? = some c ∧ P c = true ∧ (l.drop p).take (k + 1) = (l.drop p).take k ++ [c] := by
  obtain ⟨c, h1, h2⟩ := k_run_at h
  refine ⟨c, h1, h2, ?_⟩
  rw [List.take_succ, List.getElem?_drop, h1]
  rfl
theorem k_run_P {P : Nat → Bool} {l : List Nat} {p n : Nat} (hn : n ≤ k_run P l p) : ∀ c, c ∈ (l.drop p).take n → P c = true := by
  intro c hc
  obtain ⟨i, hi, e⟩ := List.mem_iff_getElem.mp hc
  rw [List.length_take] at hi
  rw [List.getElem_take, List.getElem_drop] at e
  obtain ⟨c2, h1, h2⟩ := k_run_at (P := P) (l := l) (p := p) (j := i) (by omega)
  rw [List.getElem?_eq_getElem (by have := (List.getElem?_eq_some_iff.mp h1).1; omega)] at h1
  rw [← e, Option.some.inj h1]
  exact h2
theorem k_run_len {P : Nat → Bool} {l : List Nat} {p n : Nat} (hp : p ≤ l.length) (hn : n ≤ k_run P l p) : ((l.drop p).take n).length = n := by
  have := k_run_le P l p hp
  rw [List.length_take, List.length_drop]
  omega
theorem k_W_nm {l : List Nat} {p : Nat} (hp : p ≤ l.length) (h : k_K l p = 1) : a_nm7 (k_W l p) ∧ k_W l p ≠ [] ∧ k_E l p = k_S l p + (k_W l p).length := by
  have hl : (k_W l p).length = k_a l p := k_run_len (k_S_le hp) (Nat.le_refl _)
  have hK := h
  unfold k_K at hK
  split at hK
  · rename_i h0
    split at hK
    · rename_i h7
      refine ⟨⟨fun c hc => ?_, by omega⟩, fun q => by rw [q] at hl; exact absurd hl.symm (by show ¬ k_a l p = 0; omega), ?_⟩
      · have := k_run_P (P := kLt) (Nat.le_refl _) c hc
        rw [Bool.and_eq_true, decide_eq_true_eq, decide_eq_true_eq] at this
        exact this
      · unfold k_E
        rw [if_pos h0, hl]
    · cases hK
  · split at hK
    · split at hK <;> cases hK
    · split at hK <;> cases hK
/-! REFERENCE: tokens -/
/-- only the token's fields are changed -/
def rKf (G G' : mg_G) : Prop := G'.1 = G.1 ∧ G'.2.1 = G.2.1 ∧ G'.2.2.1 = G.2.2.1 ∧ G'.2.2.2.1 = G.2.2.2.1 ∧ ∀ b k, ¬ (b = 148 ∧ 22 ≤ k ∧ k ≤ 25) → G'.2.2.2.2 b k = G.2.2.2.2 b k
theorem rKf.rf (G : mg_G) : rKf G G := ⟨rfl, rfl, rfl, rfl, fun _ _ _ => rfl⟩
theorem rKf.tr {G G' G'' : mg_G} (h : rKf G G') (h2 : rKf G' G'') : rKf G G'' := ⟨h2.1.trans h.1, h2.2.1.trans h.2.1, h2.2.2.1.trans h.2.2.1, h2.2.2.2.1.trans h.2.2.2.1, fun b k hb => (h2.2.2.2.2 b k hb).trans (h.2.2.2.2 b k hb)⟩
theorem rKf.s (G : mg_G) (k : Nat) (v : Value) (hk : 22 ≤ k ∧ k ≤ 25) : rKf G (mg_sF G 148 k v) := ⟨rfl, rfl, rfl, rfl, fun b j hb => mg_sF_ne _ _ (by omega)⟩
theorem rKf.n {G G' : mg_G} {l : List Nat} (h : rKf G G') (hI : rIn G l) : rIn G' l := ⟨(h.2.2.2.2 148 5 (by decide)).trans hI.1, hI.2.1, fun i c hi => by rw [h.1]; exact hI.2.2 i c hi⟩
/-- the token behind p stands -/
def rk (G : mg_G) (l : List Nat) (p : Nat) : Prop := G.2.2.2.2 148 22 = .int (Int32.ofNat (k_E l p)) ∧ G.2.2.2.2 148 23 = .int (Int32.ofNat (k_K l p)) ∧ G.2.2.2.2 148 24 = .int (Int32.ofNat (k_S l p)) ∧ (k_K l p = 2 → G.2.2.2.2 148 25 = .int (Int32.ofNat (k_N l p)))
theorem mg_lt97 : ∀ c, c < 256 → ((Int32.ofNat c < (Int8.ofInt 97).toInt32 ↔ c < 97) ∧ (Int32.ofNat c < (Int8.ofInt 48).toInt32 ↔ c < 48)) ∧ ((Int32.ofNat c ≤ (Int8.ofInt 122).toInt32 ↔ c ≤ 122) ∧ (Int32.ofNat c ≤ (Int8.ofInt 57).toInt32 ↔ c ≤ 57)) := by decide +kernel
section RM
variable {scr : Nat × (Nat → Int32)} {t : List mg_S} {G : mg_G} {A : a_A} {S : a_S} {l : List Nat}
theorem r208 {K : mg_K} (d : Nat) {c : Nat} (hc : c < 256) : mg_m K (d + 1) 208 [.int (Int32.ofNat c)] G (mg_v (.int (b2 (kLt c))) G) := by
  obtain ⟨⟨a1, a2⟩, a3, a4⟩ := mg_lt97 c hc
  refine mg_me [] 20 my_208 ms_208 (Nat.le_of_ble_eq_true rfl) ?_
  refine ⟨fun h => ?_, fun h => ⟨fun h2 => ?_, fun h2 => ?_⟩⟩
  · have h := a1.mp h
    exact ⟨Or.inr rfl, by rw [show kLt c = false from by simp only [kLt]; simp; omega]; rfl, rfl, rfl⟩
  · have h2 : ¬ c ≤ 122 := fun q => Int32.not_lt.mpr (a3.mpr q) h2
    exact ⟨Or.inr rfl, by rw [show kLt c = false from by simp only [kLt]; simp; omega]; rfl, rfl, rfl⟩
  · have h : ¬ c < 97 := fun q => Int32.not_lt.mpr h (a1.mpr q)
    have h2 := a3.mp h2
    exact ⟨Or.inr rfl, by rw [show kLt c = true from by simp only [kLt]; simp; omega]; rfl, rfl, rfl⟩
theorem r209 {K : mg_K} (d : Nat) {c : Nat} (hc : c < 256) : mg_m K (d + 1) 209 [.int (Int32.ofNat c)] G (mg_v (.int (b2 (kDg c))) G) := by
  obtain ⟨⟨a1, a2⟩, a3, a4⟩ := mg_lt97 c hc
  refine mg_me [] 20 my_209 ms_209 (Nat.le_of_ble_eq_true rfl) ?_
  refine ⟨fun h => ?_, fun h => ⟨fun h2 => ?_, fun h2 => ?_⟩⟩
  · have h := a2.mp h
    exact ⟨Or.inr rfl, by rw [show kDg c = false from by simp only [kDg]; simp; omega]; rfl, rfl, rfl⟩
  · have h2 : ¬ c ≤ 57 := fun q => Int32.not_lt.mpr (a4.mpr q) h2
    exact ⟨Or.inr rfl, by rw [show kDg c = false from by simp only [kDg]; simp; omega]; rfl, rfl, rfl⟩
  · have h : ¬ c < 48 := fun q => Int32.not_lt.mpr h (a2.mpr q)
    have h2 := a4.mp h2
    exact ⟨Or.inr rfl, by rw [show kDg c = true from by simp only [kDg]; simp; omega]; rfl, rfl, rfl⟩
theorem mg_sp : ∀ c, c < 256 → (Int32.ofNat c = (Int8.ofInt 32).toInt32 ↔ c = 32) ∧ (Int32.ofNat c = (Int8.ofInt 10).toInt32 ↔ c = 10) := by decide +kernel
def r210Q (G : mg_G) (l : List Nat) (p : Nat) : mg_Q := fun o q G' => o = .inl none ∧ q = 0 ∧ rk G' l p ∧ rKf G G'
theorem r210a (d : Nat) (hI : rIn G l) {p : Nat} (hp : p ≤ l.length) (h22 : G.2.2.2.2 148 22 = .int (Int32.ofNat (k_S l p))) (h24 : G.2.2.2.2 148 24 = .int (Int32.ofNat (k_S l p))) (ha : 0 < k_a l p) : mg_wp (mg_KM scr t) mc_210 (d + 1) 92 [some (.ref 148)] [] G (r210Q G l p) := by
  have hl600 := hI.2.1
  have hSle := k_S_le hp
  have hEle : k_S l p + k_a l p ≤ l.length := k_run_le kLt l _ hSle
  refine mg_loop (k_a l p) (fun k L G' => L = [some (.ref 148)] ∧ G'.2.2.2.2 148 22 = .int (Int32.ofNat (k_S l p + k)) ∧ G'.2.2.2.2 148 24 = .int (Int32.ofNat (k_S l p)) ∧ rKf G G') ?_ ?_ _ _ ⟨rfl, h22, h24, rKf.rf _⟩
  · rintro k L G' hk ⟨rfl, g22, g24, hf⟩ ih
    obtain ⟨c, hc, hP⟩ := k_run_at hk
    have hlt := (List.getElem?_eq_some_iff.mp hc).1
    obtain ⟨h5, -, hb⟩ := hf.n hI
    obtain ⟨b1, b2'⟩ := hb _ _ hc
    refine mg_go [92] 60 92 ms_210 ?_
    repeat (first | refine ⟨_, mg_Fs rfl rfl, ?_⟩ | refine ⟨Or.inl rfl, ?_⟩ | refine ⟨Or.inr ⟨_, rfl⟩, ?_⟩ | refine ⟨fun _ => ?_, fun h => absurd h (by decide)⟩ | refine ⟨fun h => absurd h (by decide), fun _ => ?_⟩)
    refine ⟨_, mg_Fe g22 rfl rfl, _, mg_Fe h5 rfl rfl, fun h => absurd h (mg_nle hlt (by omega)), fun _ => ?_⟩
    repeat (first | refine ⟨_, mg_Fs rfl rfl, ?_⟩ | refine ⟨Or.inl rfl, ?_⟩ | refine ⟨Or.inr ⟨_, rfl⟩, ?_⟩ | refine ⟨fun _ => ?_, fun h => absurd h (by decide)⟩ | refine ⟨fun h => absurd h (by decide), fun _ => ?_⟩)
    refine ⟨_, mg_Fe g22 rfl rfl, _, _, k_S l p + k, mg_Ai rfl (by decide), mg_ixN (by omega), by omega, ?_⟩
    rw [b1]
    repeat (first | refine ⟨_, mg_Fs rfl rfl, ?_⟩ | refine ⟨Or.inl rfl, ?_⟩ | refine ⟨Or.inr ⟨_, rfl⟩, ?_⟩ | refine ⟨fun _ => ?_, fun h => absurd h (by decide)⟩ | refine ⟨fun h => absurd h (by decide), fun _ => ?_⟩)
    refine mg_cv (r208 d b2') (by omega) ?_
    rw [hP]
    refine ⟨fun h => absurd h (by decide), fun _ => ?_⟩
    repeat (first | refine ⟨_, mg_Fs rfl rfl, ?_⟩ | refine ⟨Or.inl rfl, ?_⟩ | refine ⟨Or.inr ⟨_, rfl⟩, ?_⟩ | refine ⟨fun _ => ?_, fun h => absurd h (by decide)⟩ | refine ⟨fun h => absurd h (by decide), fun _ => ?_⟩)
    refine ⟨_, mg_Fe g22 rfl rfl, rfl, _, rfl, rfl, ih _ _ ⟨rfl, (mg_sF_at _ _ _ _).trans (congrArg Value.int (mg_inc _)), (mg_sF_ne _ _ (by decide)).trans g24, hf.tr (rKf.s _ _ _ (by decide))⟩⟩
  · rintro L G' ⟨rfl, g22, g24, hf⟩
    obtain ⟨h5, -, hb⟩ := hf.n hI
    have hE : k_E l p = k_S l p + k_a l p := if_pos ha
    have e3 : Int32.ofNat (k_S l p + k_a l p) - Int32.ofNat (k_S l p) = Int32.ofNat (k_a l p) := by rw [Int32.ofNat_add, Int32.add_comm, Int32.add_sub_cancel]
    have fin : mg_wp (mg_KM scr t) mc_210 (d + 1) 131 [some (.ref 148)] [] G' (r210Q G l p) := by
      refine mg_go [] 60 131 ms_210 ?_
      repeat (first | refine ⟨_, mg_Fs rfl rfl, ?_⟩ | refine ⟨Or.inl rfl, ?_⟩ | refine ⟨Or.inr ⟨_, rfl⟩, ?_⟩ | refine ⟨fun _ => ?_, fun h => absurd h (by decide)⟩ | refine ⟨fun h => absurd h (by decide), fun _ => ?_⟩)
      refine ⟨_, mg_Fe g22 rfl rfl, _, mg_Fe g24 rfl rfl, ?_⟩
      have fin2 : ∀ x : Nat, k_K l p = x → r210Q G l p (.inl none) 0 (mg_sF G' 148 23 (.int (Int32.ofNat x))) := fun x hx => ⟨rfl, rfl, ⟨by rw [hE]; exact (mg_sF_ne _ _ (by decide)).trans g22, by rw [hx]; exact mg_sF_at _ _ _ _, (mg_sF_ne _ _ (by decide)).trans g24, fun h2 => by
        unfold k_K at h2
        rw [if_pos ha] at h2
        split at h2 <;> cases h2⟩, hf.tr (rKf.s _ _ _ (by decide))⟩
      refine ⟨fun h => ?_, fun h => ?_⟩
      · have h : Int32.ofNat (k_S l p + k_a l p) - Int32.ofNat (k_S l p) ≤ (Int8.ofInt 7).toInt32 := h
        rw [e3] at h
        have h := (mg_leN (b := 7) (by omega) (by decide)).mp h
        exact ⟨rfl, _, rfl, rfl, fin2 1 (by unfold k_K; rw [if_pos ha, if_pos h])⟩
      · have h : (Int8.ofInt 7).toInt32 < Int32.ofNat (k_S l p + k_a l p) - Int32.ofNat (k_S l p) := h
        rw [e3] at h
        have h := (mg_ltN (a := 7) (by decide) (by omega)).mp h
        exact ⟨rfl, _, rfl, rfl, fin2 4 (by unfold k_K; rw [if_pos ha, if_neg (by omega)])⟩
    refine mg_go [131] 60 92 ms_210 ?_
    repeat (first | refine ⟨_, mg_Fs rfl rfl, ?_⟩ | refine ⟨Or.inl rfl, ?_⟩ | refine ⟨Or.inr ⟨_, rfl⟩, ?_⟩ | refine ⟨fun _ => ?_, fun h => absurd h (by decide)⟩ | refine ⟨fun h => absurd h (by decide), fun _ => ?_⟩)
    refine ⟨_, mg_Fe g22 rfl rfl, _, mg_Fe h5 rfl rfl, fun _ => fin, fun h => ?_⟩
    have h := (mg_ltN (by omega) (by omega)).mp h
    have hc := List.getElem?_eq_getElem h
    obtain ⟨b1, b2'⟩ := hb _ _ hc
    have hP := k_run_end (P := kLt) (k_a l p) (k_S l p) rfl _ hc
    repeat (first | refine ⟨_, mg_Fs rfl rfl, ?_⟩ | refine ⟨Or.inl rfl, ?_⟩ | refine ⟨Or.inr ⟨_, rfl⟩, ?_⟩ | refine ⟨fun _ => ?_, fun h => absurd h (by decide)⟩ | refine ⟨fun h => absurd h (by decide), fun _ => ?_⟩)
    refine ⟨_, mg_Fe g22 rfl rfl, _, _, k_S l p + k_a l p, mg_Ai rfl (by decide), mg_ixN (by omega), by omega, ?_⟩
    rw [b1]
    repeat (first | refine ⟨_, mg_Fs rfl rfl, ?_⟩ | refine ⟨Or.inl rfl, ?_⟩ | refine ⟨Or.inr ⟨_, rfl⟩, ?_⟩ | refine ⟨fun _ => ?_, fun h => absurd h (by decide)⟩ | refine ⟨fun h => absurd h (by decide), fun _ => ?_⟩)
    refine mg_cv (r208 d b2') (by omega) ?_
    rw [hP]
    exact ⟨fun _ => fin, fun h => absurd rfl h⟩
theorem r210b (d : Nat) (hI : rIn G l) {p : Nat} (hp : p ≤ l.length) (h22 : G.2.2.2.2 148 22 = .int (Int32.ofNat (k_S l p))) (h24 : G.2.2.2.2 148 24 = .int (Int32.ofNat (k_S l p))) (h25 : G.2.2.2.2 148 25 = .int (Int32.ofNat 0)) (ha : ¬ 0 < k_a l p) (hb0 : 0 < k_b l p) : mg_wp (mg_KM scr t) mc_210 (d + 1) 175 [some (.ref 148)] [] G (r210Q G l p) := by
  have hl600 := hI.2.1
  have hSle := k_S_le hp
  have hEle : k_S l p + k_b l p ≤ l.length := k_run_le kDg l _ hSle
  refine mg_loop (k_b l p) (fun k L G' => L = [some (.ref 148)] ∧ G'.2.2.2.2 148 22 = .int (Int32.ofNat (k_S l p + k)) ∧ G'.2.2.2.2 148 24 = .int (Int32.ofNat (k_S l p)) ∧ (∃ x, G'.2.2.2.2 148 25 = .int x ∧ (k ≤ 3 → x = Int32.ofNat (k_num ((l.drop (k_S l p)).take k)))) ∧ rKf G G') ?_ ?_ _ _ ⟨rfl, h22, h24, ⟨_, h25, fun _ => by rw [List.take_zero]; rfl⟩, rKf.rf _⟩
  · rintro k L G' hk ⟨rfl, g22, g24, ⟨x, g25, hx⟩, hf⟩ ih
    obtain ⟨c, hc, hP, hts⟩ := k_take_s hk
    have hlt := (List.getElem?_eq_some_iff.mp hc).1
    obtain ⟨h5, -, hb⟩ := hf.n hI
    obtain ⟨b1, b2'⟩ := hb _ _ hc
    have e3 : Int32.ofNat (k_S l p + k) - Int32.ofNat (k_S l p) = Int32.ofNat k := by rw [Int32.ofNat_add, Int32.add_comm, Int32.add_sub_cancel]
    have st : ∀ G2 : mg_G, G2.2.2.2.2 148 22 = .int (Int32.ofNat (k_S l p + k)) → G2.2.2.2.2 148 24 = .int (Int32.ofNat (k_S l p)) → (∃ x, G2.2.2.2.2 148 25 = .int x ∧ (k + 1 ≤ 3 → x = Int32.ofNat (k_num ((l.drop (k_S l p)).take (k + 1))))) → rKf G G2 → mg_wp (mg_KM scr t) mc_210 (d + 1) 238 [some (.ref 148)] [] G2 (r210Q G l p) := fun G2 q22 q24 ⟨y, q25, qy⟩ qf => by
      refine mg_go [175] 60 238 ms_210 ?_
      repeat (first | refine ⟨_, mg_Fs rfl rfl, ?_⟩ | refine ⟨Or.inl rfl, ?_⟩ | refine ⟨Or.inr ⟨_, rfl⟩, ?_⟩ | refine ⟨fun _ => ?_, fun h => absurd h (by decide)⟩ | refine ⟨fun h => absurd h (by decide), fun _ => ?_⟩)
      refine ⟨_, mg_Fe q22 rfl rfl, rfl, _, rfl, rfl, ih _ _ ⟨rfl, (mg_sF_at _ _ _ _).trans (congrArg Value.int (mg_inc _)), (mg_sF_ne _ _ (by decide)).trans q24, ⟨y, (mg_sF_ne _ _ (by decide)).trans q25, qy⟩, qf.tr (rKf.s _ _ _ (by decide))⟩⟩
    refine mg_go [238] 60 175 ms_210 ?_
    repeat (first | refine ⟨_, mg_Fs rfl rfl, ?_⟩ | refine ⟨Or.inl rfl, ?_⟩ | refine ⟨Or.inr ⟨_, rfl⟩, ?_⟩ | refine ⟨fun _ => ?_, fun h => absurd h (by decide)⟩ | refine ⟨fun h => absurd h (by decide), fun _ => ?_⟩)
    refine ⟨_, mg_Fe g22 rfl rfl, _, mg_Fe h5 rfl rfl, fun h => absurd h (mg_nle hlt (by omega)), fun _ => ?_⟩
    repeat (first | refine ⟨_, mg_Fs rfl rfl, ?_⟩ | refine ⟨Or.inl rfl, ?_⟩ | refine ⟨Or.inr ⟨_, rfl⟩, ?_⟩ | refine ⟨fun _ => ?_, fun h => absurd h (by decide)⟩ | refine ⟨fun h => absurd h (by decide), fun _ => ?_⟩)
    refine ⟨_, mg_Fe g22 rfl rfl, _, _, k_S l p + k, mg_Ai rfl (by decide), mg_ixN (by omega), by omega, ?_⟩
    rw [b1]
    repeat (first | refine ⟨_, mg_Fs rfl rfl, ?_⟩ | refine ⟨Or.inl rfl, ?_⟩ | refine ⟨Or.inr ⟨_, rfl⟩, ?_⟩ | refine ⟨fun _ => ?_, fun h => absurd h (by decide)⟩ | refine ⟨fun h => absurd h (by decide), fun _ => ?_⟩)
    refine mg_cv (r209 d b2') (by omega) ?_
    rw [hP]
    refine ⟨fun h => absurd h (by decide), fun _ => ?_⟩
    repeat (first | refine ⟨_, mg_Fs rfl rfl, ?_⟩ | refine ⟨Or.inl rfl, ?_⟩ | refine ⟨Or.inr ⟨_, rfl⟩, ?_⟩ | refine ⟨fun _ => ?_, fun h => absurd h (by decide)⟩ | refine ⟨fun h => absurd h (by decide), fun _ => ?_⟩)
    refine ⟨_, mg_Fe g22 rfl rfl, _, mg_Fe g24 rfl rfl, fun h => ?_, fun h => ?_⟩
    · have h : (Int32.ofInt 3) ≤ Int32.ofNat (k_S l p + k) - Int32.ofNat (k_S l p) := h
      rw [e3] at h
      have h := (mg_leN (a := 3) (by decide) (by omega)).mp h
      exact st G' g22 g24 ⟨x, g25, fun q => absurd q (by omega)⟩ hf
    · have h : Int32.ofNat (k_S l p + k) - Int32.ofNat (k_S l p) < (Int32.ofInt 3) := h
      rw [e3] at h
      have h := (mg_ltN (b := 3) (by omega) (by decide)).mp h
      repeat (first | refine ⟨_, mg_Fs rfl rfl, ?_⟩ | refine ⟨Or.inl rfl, ?_⟩ | refine ⟨Or.inr ⟨_, rfl⟩, ?_⟩ | refine ⟨fun _ => ?_, fun h => absurd h (by decide)⟩ | refine ⟨fun h => absurd h (by decide), fun _ => ?_⟩)
      refine ⟨_, mg_Fe g25 rfl rfl, ?_⟩
      repeat (first | refine ⟨_, mg_Fs rfl rfl, ?_⟩ | refine ⟨Or.inl rfl, ?_⟩ | refine ⟨Or.inr ⟨_, rfl⟩, ?_⟩ | refine ⟨fun _ => ?_, fun h => absurd h (by decide)⟩ | refine ⟨fun h => absurd h (by decide), fun _ => ?_⟩)
      refine ⟨_, mg_Fe g22 rfl rfl, _, _, k_S l p + k, mg_Ai rfl (by decide), mg_ixN (by omega), by omega, ?_⟩
      rw [b1]
      refine ⟨rfl, _, rfl, rfl, st (mg_sF G' 148 25 (.int (x * (Int8.ofInt 10).toInt32 + Int32.ofNat c - (Int8.ofInt 48).toInt32))) ((mg_sF_ne _ _ (by decide)).trans g22) ((mg_sF_ne _ _ (by decide)).trans g24) ⟨_, mg_sF_at _ _ _ _, fun q => ?_⟩ (hf.tr (rKf.s _ _ _ (by decide)))⟩
      rw [hts, k_num_s, hx (by omega)]
      have h48 : 48 ≤ c := by
        simp only [kDg, Bool.and_eq_true, decide_eq_true_eq] at hP
        exact hP.1
      have e4 : Int32.ofNat c = Int32.ofNat (c - 48) + (Int8.ofInt 48).toInt32 := by
        rw [show (Int8.ofInt 48).toInt32 = Int32.ofNat 48 from rfl, ← Int32.ofNat_add, Nat.sub_add_cancel h48]
      rw [e4, ← Int32.add_assoc, Int32.add_sub_cancel, Int32.ofNat_add, Int32.ofNat_mul]
      rfl
  · rintro L G' ⟨rfl, g22, g24, ⟨x, g25, hx⟩, hf⟩
    obtain ⟨h5, -, hb⟩ := hf.n hI
    have hE : k_E l p = k_S l p + k_b l p := (if_neg ha).trans (if_pos hb0)
    have e3 : Int32.ofNat (k_S l p + k_b l p) - Int32.ofNat (k_S l p) = Int32.ofNat (k_b l p) := by rw [Int32.ofNat_add, Int32.add_comm, Int32.add_sub_cancel]
    have fin : mg_wp (mg_KM scr t) mc_210 (d + 1) 251 [some (.ref 148)] [] G' (r210Q G l p) := by
      refine mg_go [] 60 251 ms_210 ?_
      repeat (first | refine ⟨_, mg_Fs rfl rfl, ?_⟩ | refine ⟨Or.inl rfl, ?_⟩ | refine ⟨Or.inr ⟨_, rfl⟩, ?_⟩ | refine ⟨fun _ => ?_, fun h => absurd h (by decide)⟩ | refine ⟨fun h => absurd h (by decide), fun _ => ?_⟩)
      refine ⟨_, mg_Fe g22 rfl rfl, _, mg_Fe g24 rfl rfl, ?_⟩
      have fin2 : ∀ y : Nat, k_K l p = y → r210Q G l p (.inl none) 0 (mg_sF G' 148 23 (.int (Int32.ofNat y))) := fun y hy => ⟨rfl, rfl, ⟨by rw [hE]; exact (mg_sF_ne _ _ (by decide)).trans g22, by rw [hy]; exact mg_sF_at _ _ _ _, (mg_sF_ne _ _ (by decide)).trans g24, fun h2 => by
        unfold k_K at h2
        rw [if_neg ha, if_pos hb0] at h2
        split at h2
        · rename_i h3
          refine (mg_sF_ne _ _ (by decide)).trans (g25.trans ?_)
          rw [hx h3]
          rfl
        · cases h2⟩, hf.tr (rKf.s _ _ _ (by decide))⟩
      refine ⟨fun h => ?_, fun h => ?_⟩
      · have h : Int32.ofNat (k_S l p + k_b l p) - Int32.ofNat (k_S l p) ≤ (Int32.ofInt 3) := h
        rw [e3] at h
        have h := (mg_leN (b := 3) (by omega) (by decide)).mp h
        exact ⟨rfl, _, rfl, rfl, fin2 2 (by unfold k_K; rw [if_neg ha, if_pos hb0, if_pos h])⟩
      · have h : (Int32.ofInt 3) < Int32.ofNat (k_S l p + k_b l p) - Int32.ofNat (k_S l p) := h
        rw [e3] at h
        have h := (mg_ltN (a := 3) (by decide) (by omega)).mp h
        exact ⟨rfl, _, rfl, rfl, fin2 4 (by unfold k_K; rw [if_neg ha, if_pos hb0, if_neg (by omega)])⟩
    refine mg_go [251] 60 175 ms_210 ?_
    repeat (first | refine ⟨_, mg_Fs rfl rfl, ?_⟩ | refine ⟨Or.inl rfl, ?_⟩ | refine ⟨Or.inr ⟨_, rfl⟩, ?_⟩ | refine ⟨fun _ => ?_, fun h => absurd h (by decide)⟩ | refine ⟨fun h => absurd h (by decide), fun _ => ?_⟩)
    refine ⟨_, mg_Fe g22 rfl rfl, _, mg_Fe h5 rfl rfl, fun _ => fin, fun h => ?_⟩
    have h := (mg_ltN (by omega) (by omega)).mp h
    have hc := List.getElem?_eq_getElem h
    obtain ⟨b1, b2'⟩ := hb _ _ hc
    have hP := k_run_end (P := kDg) (k_b l p) (k_S l p) rfl _ hc
    repeat (first | refine ⟨_, mg_Fs rfl rfl, ?_⟩ | refine ⟨Or.inl rfl, ?_⟩ | refine ⟨Or.inr ⟨_, rfl⟩, ?_⟩ | refine ⟨fun _ => ?_, fun h => absurd h (by decide)⟩ | refine ⟨fun h => absurd h (by decide), fun _ => ?_⟩)
    refine ⟨_, mg_Fe g22 rfl rfl, _, _, k_S l p + k_b l p, mg_Ai rfl (by decide), mg_ixN (by omega), by omega, ?_⟩
    rw [b1]
    repeat (first | refine ⟨_, mg_Fs rfl rfl, ?_⟩ | refine ⟨Or.inl rfl, ?_⟩ | refine ⟨Or.inr ⟨_, rfl⟩, ?_⟩ | refine ⟨fun _ => ?_, fun h => absurd h (by decide)⟩ | refine ⟨fun h => absurd h (by decide), fun _ => ?_⟩)
    refine mg_cv (r209 d b2') (by omega) ?_
    rw [hP]
    exact ⟨fun _ => fin, fun h => absurd rfl h⟩
theorem r210c (d : Nat) (hI : rIn G l) {p : Nat} (hp : p ≤ l.length) (g22 : G.2.2.2.2 148 22 = .int (Int32.ofNat (k_S l p))) : mg_wp (mg_KM scr t) mc_210 (d + 1) 52 [some (.ref 148)] [] G (r210Q G l p) := by
  have hl600 := hI.2.1
  have hSle := k_S_le hp
  have h5 := hI.1
  have f24 := rKf.s G 24 (.int (Int32.ofNat (k_S l p))) (by decide)
  have q24 := mg_sF_at G 148 24 (.int (Int32.ofNat (k_S l p)))
  have q22 : (mg_sF G 148 24 (.int (Int32.ofNat (k_S l p)))).2.2.2.2 148 22 = .int (Int32.ofNat (k_S l p)) := (mg_sF_ne _ _ (by decide)).trans g22
  have qI := f24.n hI
  refine mg_go [92, 175] 60 52 ms_210 ?_
  refine ⟨_, mg_Fe g22 rfl rfl, rfl, _, rfl, rfl, ?_⟩
  rw [show ((G.1, G.2.1, G.2.2.1, G.2.2.2.1, mg_u2 G.2.2.2.2 148 24 (.int (Int32.ofNat (k_S l p)))) : mg_G) = mg_sF G 148 24 (.int (Int32.ofNat (k_S l p))) from rfl]
  generalize hG1 : mg_sF G 148 24 (.int (Int32.ofNat (k_S l p))) = G1 at f24 q24 q22 qI
  have q5 := qI.1
  refine ⟨_, mg_Fe q22 rfl rfl, _, mg_Fe q5 rfl rfl, fun h => ?_, fun h => ?_⟩
  · have h : ¬ k_S l p = l.length := fun q => h (by rw [q])
    have hlt : k_S l p < l.length := by omega
    have hc := List.getElem?_eq_getElem hlt
    obtain ⟨b1, b2'⟩ := qI.2.2 _ _ hc
    repeat (first | refine ⟨_, mg_Fs rfl rfl, ?_⟩ | refine ⟨Or.inl rfl, ?_⟩ | refine ⟨Or.inr ⟨_, rfl⟩, ?_⟩ | refine ⟨fun _ => ?_, fun h => absurd h (by decide)⟩ | refine ⟨fun h => absurd h (by decide), fun _ => ?_⟩)
    refine ⟨_, mg_Fe q22 rfl rfl, _, _, k_S l p, mg_Ai rfl (by decide), mg_ixN (by omega), by omega, ?_⟩
    rw [b1]
    repeat (first | refine ⟨_, mg_Fs rfl rfl, ?_⟩ | refine ⟨Or.inl rfl, ?_⟩ | refine ⟨Or.inr ⟨_, rfl⟩, ?_⟩ | refine ⟨fun _ => ?_, fun h => absurd h (by decide)⟩ | refine ⟨fun h => absurd h (by decide), fun _ => ?_⟩)
    refine mg_cv (r208 d b2') (by omega) ?_
    cases hL : kLt l[k_S l p] with
    | true =>
      have ha : 0 < k_a l p := by unfold k_a; rw [k_run_y hc hL]; omega
      refine ⟨fun h => absurd h (by decide), fun _ => ?_⟩
      exact mg_wp_mono (r210a d qI hp q22 q24 ha) (fun o q G2 ⟨w1, w2, w3, w4⟩ => ⟨w1, w2, w3, f24.tr w4⟩)
    | false =>
      have ha : ¬ 0 < k_a l p := by unfold k_a; rw [k_run_n hc hL]; omega
      refine ⟨fun _ => ?_, fun h => absurd rfl h⟩
      repeat (first | refine ⟨_, mg_Fs rfl rfl, ?_⟩ | refine ⟨Or.inl rfl, ?_⟩ | refine ⟨Or.inr ⟨_, rfl⟩, ?_⟩ | refine ⟨fun _ => ?_, fun h => absurd h (by decide)⟩ | refine ⟨fun h => absurd h (by decide), fun _ => ?_⟩)
      refine ⟨_, mg_Fe q22 rfl rfl, _, _, k_S l p, mg_Ai rfl (by decide), mg_ixN (by omega), by omega, ?_⟩
      rw [b1]
      repeat (first | refine ⟨_, mg_Fs rfl rfl, ?_⟩ | refine ⟨Or.inl rfl, ?_⟩ | refine ⟨Or.inr ⟨_, rfl⟩, ?_⟩ | refine ⟨fun _ => ?_, fun h => absurd h (by decide)⟩ | refine ⟨fun h => absurd h (by decide), fun _ => ?_⟩)
      refine mg_cv (r209 d b2') (by omega) ?_
      cases hD : kDg l[k_S l p] with
      | true =>
        have hb : 0 < k_b l p := by unfold k_b; rw [k_run_y hc hD]; omega
        refine ⟨fun h => absurd h (by decide), fun _ => ?_⟩
        have f25 := rKf.s G1 25 (.int (Int32.ofInt 0)) (by decide)
        refine ⟨rfl, _, rfl, rfl, ?_⟩
        exact mg_wp_mono (r210b (G := mg_sF G1 148 25 (.int (Int32.ofInt 0))) d (f25.n qI) hp ((mg_sF_ne _ _ (by decide)).trans q22) ((mg_sF_ne _ _ (by decide)).trans q24) (mg_sF_at _ _ _ _) ha hb) (fun o q G2 ⟨w1, w2, w3, w4⟩ => ⟨w1, w2, w3, (f24.tr f25).tr w4⟩)
      | false =>
        have hb : ¬ 0 < k_b l p := by unfold k_b; rw [k_run_n hc hD]; omega
        have hK : k_K l p = 3 := by unfold k_K; rw [if_neg ha, if_neg hb, if_pos hlt]
        have hE : k_E l p = k_S l p + 1 := by unfold k_E; rw [if_neg ha, if_neg hb, if_pos hlt]
        refine ⟨fun _ => ?_, fun h => absurd rfl h⟩
        repeat (first | refine ⟨_, mg_Fs rfl rfl, ?_⟩ | refine ⟨Or.inl rfl, ?_⟩ | refine ⟨Or.inr ⟨_, rfl⟩, ?_⟩ | refine ⟨fun _ => ?_, fun h => absurd h (by decide)⟩ | refine ⟨fun h => absurd h (by decide), fun _ => ?_⟩)
        refine ⟨_, mg_Fe q22 rfl rfl, rfl, _, rfl, rfl, rfl, _, rfl, rfl, rfl, rfl, ⟨?_, ?_, ?_, fun h => ?_⟩, f24.tr ((rKf.s G1 22 (.int (Int32.ofNat (k_S l p) + Int32.ofInt 1)) (by decide)).tr (rKf.s _ 23 _ (by decide)))⟩
        · rw [hE]
          exact (mg_sF_ne _ _ (by decide)).trans ((mg_sF_at _ _ _ _).trans (congrArg Value.int (mg_inc _)))
        · rw [hK]
          exact mg_sF_at _ _ _ _
        · exact (mg_sF_ne _ _ (by decide)).trans ((mg_sF_ne _ _ (by decide)).trans q24)
        · rw [hK] at h
          cases h
  · have h := (mg_eqN (by omega) (by omega)).mp h
    have ha : ¬ 0 < k_a l p := by unfold k_a; rw [k_run_0 (by omega)]; omega
    have hb : ¬ 0 < k_b l p := by unfold k_b; rw [k_run_0 (by omega)]; omega
    have hK : k_K l p = 0 := by unfold k_K; rw [if_neg ha, if_neg hb, if_neg (by omega)]
    have hE : k_E l p = k_S l p := by unfold k_E; rw [if_neg ha, if_neg hb, if_neg (by omega)]
    refine ⟨rfl, _, rfl, rfl, rfl, rfl, ⟨?_, ?_, ?_, fun h => ?_⟩, f24.tr (rKf.s _ 23 _ (by decide))⟩
    · rw [hE]
      exact (mg_sF_ne _ _ (by decide)).trans q22
    · rw [hK]
      exact mg_sF_at _ _ _ _
    · exact (mg_sF_ne _ _ (by decide)).trans q24
    · rw [hK] at h
      cases h
theorem r210 (d : Nat) (hI : rIn G l) {p : Nat} (hp : p ≤ l.length) (h22 : G.2.2.2.2 148 22 = .int (Int32.ofNat p)) : mg_m (mg_KM scr t) (d + 2) 210 [.ref 148] G (r210Q G l p) := by
  have hl600 := hI.2.1
  have hSle := k_S_le hp
  have byte : ∀ {G' : mg_G}, rKf G G' → ∀ {i c : Nat}, l[i]? = some c → G'.1 152 i = Int32.ofNat c ∧ c < 256 := fun hf _ _ h => (hf.n hI).2.2 _ _ h
  refine mg_in my_210 (Nat.le_of_ble_eq_true rfl) ?_
  refine mg_loop (k_run kSp l p) (fun k L G' => L = [some (.ref 148)] ∧ G'.2.2.2.2 148 22 = .int (Int32.ofNat (p + k)) ∧ rKf G G') ?_ ?_ _ _ ⟨rfl, h22, rKf.rf _⟩
  · rintro k L G' hk ⟨rfl, g22, hf⟩ ih
    obtain ⟨c, hc, hP⟩ := k_run_at hk
    have hlt := (List.getElem?_eq_some_iff.mp hc).1
    have h5 := (hf.n hI).1
    obtain ⟨b1, b2'⟩ := byte hf hc
    obtain ⟨e1, e2⟩ := mg_sp c b2'
    have st : mg_wp (mg_KM scr t) mc_210 (d + 1) 39 [some (.ref 148)] [] G' (r210Q G l p) := by
      refine mg_go [0] 60 39 ms_210 ?_
      repeat (first | refine ⟨_, mg_Fs rfl rfl, ?_⟩ | refine ⟨Or.inl rfl, ?_⟩ | refine ⟨Or.inr ⟨_, rfl⟩, ?_⟩ | refine ⟨fun _ => ?_, fun h => absurd h (by decide)⟩ | refine ⟨fun h => absurd h (by decide), fun _ => ?_⟩)
      refine ⟨_, mg_Fe g22 rfl rfl, rfl, _, rfl, rfl, ih _ _ ⟨rfl, (mg_sF_at _ _ _ _).trans (congrArg Value.int (mg_inc _)), hf.tr (rKf.s _ _ _ (by decide))⟩⟩
    refine mg_go [39, 52] 60 0 ms_210 ?_
    repeat (first | refine ⟨_, mg_Fs rfl rfl, ?_⟩ | refine ⟨Or.inl rfl, ?_⟩ | refine ⟨Or.inr ⟨_, rfl⟩, ?_⟩ | refine ⟨fun _ => ?_, fun h => absurd h (by decide)⟩ | refine ⟨fun h => absurd h (by decide), fun _ => ?_⟩)
    refine ⟨_, mg_Fe g22 rfl rfl, _, mg_Fe h5 rfl rfl, fun h => absurd h (mg_nle hlt (by omega)), fun _ => ?_⟩
    repeat (first | refine ⟨_, mg_Fs rfl rfl, ?_⟩ | refine ⟨Or.inl rfl, ?_⟩ | refine ⟨Or.inr ⟨_, rfl⟩, ?_⟩ | refine ⟨fun _ => ?_, fun h => absurd h (by decide)⟩ | refine ⟨fun h => absurd h (by decide), fun _ => ?_⟩)
    refine ⟨_, mg_Fe g22 rfl rfl, _, _, p + k, mg_Ai rfl (by decide), mg_ixN (by omega), by omega, ?_⟩
    rw [b1]
    refine ⟨fun _ => st, fun h => ?_⟩
    have h : ¬ c = 32 := fun q => h (e1.mpr q)
    have h10 : c = 10 := by
      simp only [kSp, Bool.or_eq_true, beq_iff_eq] at hP
      omega
    repeat (first | refine ⟨_, mg_Fs rfl rfl, ?_⟩ | refine ⟨Or.inl rfl, ?_⟩ | refine ⟨Or.inr ⟨_, rfl⟩, ?_⟩ | refine ⟨fun _ => ?_, fun h => absurd h (by decide)⟩ | refine ⟨fun h => absurd h (by decide), fun _ => ?_⟩)
    refine ⟨_, mg_Fe g22 rfl rfl, _, _, p + k, mg_Ai rfl (by decide), mg_ixN (by omega), by omega, ?_⟩
    rw [b1]
    exact ⟨fun h => absurd (e2.mpr h10) h, fun _ => st⟩
  · rintro L G' ⟨rfl, g22, hf⟩
    have g22 : G'.2.2.2.2 148 22 = .int (Int32.ofNat (k_S l p)) := g22
    obtain ⟨h5, -, hb⟩ := hf.n hI
    have fin : mg_wp (mg_KM scr t) mc_210 (d + 1) 52 [some (.ref 148)] [] G' (r210Q G l p) := mg_wp_mono (r210c d (hf.n hI) hp g22) (fun o q G2 ⟨w1, w2, w3, w4⟩ => ⟨w1, w2, w3, hf.tr w4⟩)
    refine mg_go [52] 60 0 ms_210 ?_
    repeat (first | refine ⟨_, mg_Fs rfl rfl, ?_⟩ | refine ⟨Or.inl rfl, ?_⟩ | refine ⟨Or.inr ⟨_, rfl⟩, ?_⟩ | refine ⟨fun _ => ?_, fun h => absurd h (by decide)⟩ | refine ⟨fun h => absurd h (by decide), fun _ => ?_⟩)
    refine ⟨_, mg_Fe g22 rfl rfl, _, mg_Fe h5 rfl rfl, fun _ => fin, fun h => ?_⟩
    have h := (mg_ltN (by omega) (by omega)).mp h
    have hc := List.getElem?_eq_getElem h
    obtain ⟨b1, b2'⟩ := hb _ _ hc
    have hP := k_run_end (P := kSp) (k_run kSp l p) p rfl _ hc
    obtain ⟨e1, e2⟩ := mg_sp _ b2'
    simp only [kSp, Bool.or_eq_false_iff, beq_eq_false_iff_ne] at hP
    repeat (first | refine ⟨_, mg_Fs rfl rfl, ?_⟩ | refine ⟨Or.inl rfl, ?_⟩ | refine ⟨Or.inr ⟨_, rfl⟩, ?_⟩ | refine ⟨fun _ => ?_, fun h => absurd h (by decide)⟩ | refine ⟨fun h => absurd h (by decide), fun _ => ?_⟩)
    refine ⟨_, mg_Fe g22 rfl rfl, _, _, k_S l p, mg_Ai rfl (by decide), mg_ixN (by omega), by omega, ?_⟩
    rw [b1]
    refine ⟨fun h => absurd (e1.mp h) hP.1, fun _ => ?_⟩
    repeat (first | refine ⟨_, mg_Fs rfl rfl, ?_⟩ | refine ⟨Or.inl rfl, ?_⟩ | refine ⟨Or.inr ⟨_, rfl⟩, ?_⟩ | refine ⟨fun _ => ?_, fun h => absurd h (by decide)⟩ | refine ⟨fun h => absurd h (by decide), fun _ => ?_⟩)
    refine ⟨_, mg_Fe g22 rfl rfl, _, _, k_S l p, mg_Ai rfl (by decide), mg_ixN (by omega), by omega, ?_⟩
    rw [b1]
    exact ⟨fun _ => fin, fun h => absurd (e2.mp h) hP.2⟩
end RM
