def a_pn (l : List Nat) : Nat := l.foldl (fun a c => a * 256 + c) 0
def a_pk (l : List Nat) : Int64 := Int64.ofNat (a_pn l)
theorem a_pn_s (l : List Nat) (c : Nat) : a_pn (l ++ [c]) = a_pn l * 256 + c := by
  unfold a_pn
  rw [List.foldl_append]
  rfl
def a_let (l : List Nat) : Prop := ∀ c, c ∈ l → 97 ≤ c ∧ c ≤ 122
theorem a_let_s {l : List Nat} {c : Nat} : a_let (l ++ [c]) ↔ a_let l ∧ 97 ≤ c ∧ c ≤ 122 := by
  constructor
  · exact fun h => ⟨fun x hx => h x (List.mem_append_left _ hx), h c (List.mem_append_right _ List.mem_cons_self)⟩
  · rintro ⟨h1, h2⟩ x hx
    rcases List.mem_append.mp hx with q | q
    · exact h1 x q
    · rw [List.mem_singleton.mp q]
      exact h2
theorem a_snoc {P : List Nat → Prop} (h0 : P []) (hs : ∀ l c, P l → P (l ++ [c])) : ∀ l, P l := by
  intro l
  have key : ∀ n (l : List Nat), l.length = n → P l := by
    intro n
    induction n with
    | zero =>
      intro l h
      rw [List.length_eq_zero_iff.mp h]
      exact h0
    | succ n ih =>
      intro l h
      have hne : l ≠ [] := fun q => by rw [q] at h; cases h
      rw [← List.dropLast_concat_getLast hne]
      exact hs _ _ (ih _ (by rw [List.length_dropLast]; omega))
  exact key _ l rfl
theorem a_pn_lt : ∀ l, a_let l → a_pn l < 256 ^ l.length := by
  refine a_snoc (fun _ => by decide) (fun l c ih h => ?_)
  obtain ⟨h1, h2, h3⟩ := a_let_s.mp h
  have := ih h1
  rw [a_pn_s, List.length_append, List.length_singleton, Nat.pow_succ]
  omega
theorem a_pn_56 {l : List Nat} (h : a_let l) (h7 : l.length ≤ 7) : a_pn l < 2 ^ 56 := by
  have h1 := a_pn_lt l h
  have h2 : 256 ^ l.length ≤ 256 ^ 7 := Nat.pow_le_pow_right (by decide) h7
  have h3 : (256 : Nat) ^ 7 = 2 ^ 56 := by decide
  omega
theorem a_pn_inj : ∀ l, ∀ m, a_let l → a_let m → a_pn l = a_pn m → l = m := by
  refine a_snoc ?_ (fun l c ih => ?_)
  · refine a_snoc (fun _ _ _ => rfl) (fun m c _ _ hm h => ?_)
    rw [a_pn_s] at h
    have := (a_let_s.mp hm).2
    have h0 : a_pn [] = 0 := rfl
    omega
  · refine a_snoc (fun hl _ h => ?_) (fun m e _ hl hm h => ?_)
    · rw [a_pn_s] at h
      have := (a_let_s.mp hl).2
      have h0 : a_pn [] = 0 := rfl
      omega
    · rw [a_pn_s, a_pn_s] at h
      obtain ⟨l1, l2⟩ := a_let_s.mp hl
      obtain ⟨m1, m2⟩ := a_let_s.mp hm
      have e1 : c = e := by omega
      subst e1
      rw [ih m l1 m1 (by omega)]
theorem a_ofN64 {a b : Nat} (ha : a < 2 ^ 56) (hb : b < 2 ^ 56) : Int64.ofNat a = Int64.ofNat b ↔ a = b := by
  refine ⟨fun h => ?_, fun h => by rw [h]⟩
  have h1 := congrArg (fun x : Int64 => x.toBitVec.toNat) h
  have h2 : (BitVec.ofNat 64 a).toNat = (BitVec.ofNat 64 b).toNat := h1
  rw [BitVec.toNat_ofNat, BitVec.toNat_ofNat] at h2
  omega
/-- a name that may stand: none, or up to 7 letters -/
def a_nm7 (l : List Nat) : Prop := a_let l ∧ l.length ≤ 7
theorem a_pk_inj {l m : List Nat} (hl : a_nm7 l) (hm : a_nm7 m) : a_pk l = a_pk m ↔ l = m := by
  refine ⟨fun h => ?_, fun h => by rw [h]⟩
  exact a_pn_inj l m hl.1 hm.1 ((a_ofN64 (a_pn_56 hl.1 hl.2) (a_pn_56 hm.1 hm.2)).mp h)
theorem a_pk_0 {l : List Nat} (hl : a_nm7 l) : a_pk l = 0 ↔ l = [] := a_pk_inj (m := []) hl ⟨fun c h => absurd h List.not_mem_nil, by decide⟩
/-- one letter more -/
theorem a_pk_s {l : List Nat} (hl : a_nm7 l) (h6 : l.length ≤ 6) {c : Nat} (hc : c < 128) : (a_pk l <<< (((Int8.ofInt 8).toInt32).toInt64 &&& 63)) ||| Int64.ofNat c = a_pk (l ++ [c]) := by
  have h1 := a_pn_lt l hl.1
  have h2 : 256 ^ l.length ≤ 256 ^ 6 := Nat.pow_le_pow_right (by decide) h6
  have h3 : (256 : Nat) ^ 6 = 2 ^ 48 := by decide
  unfold a_pk
  rw [a_pn_s]
  apply Int64.toBitVec_inj.mp
  apply BitVec.eq_of_toNat_eq
  rw [Int64.toBitVec_or, BitVec.toNat_or, Int64.toBitVec_shiftLeft]
  have e : ((((Int8.ofInt 8).toInt32).toInt64 &&& 63).toBitVec.smod 64) = 8#64 := by decide
  rw [e]
  show ((BitVec.ofNat 64 (a_pn l) <<< 8#64).toNat ||| (BitVec.ofNat 64 c).toNat) = (BitVec.ofNat 64 (a_pn l * 256 + c)).toNat
  rw [BitVec.shiftLeft_eq', BitVec.toNat_shiftLeft, BitVec.toNat_ofNat, BitVec.toNat_ofNat, BitVec.toNat_ofNat, Nat.shiftLeft_eq, Nat.mod_eq_of_lt (show a_pn l < 2 ^ 64 by omega), show 8 % 2 ^ 64 = 8 by decide, Nat.mod_eq_of_lt (show a_pn l * 2 ^ 8 < 2 ^ 64 by omega), Nat.mod_eq_of_lt (show c < 2 ^ 64 by omega), BitVec.toNat_ofNat, Nat.mod_eq_of_lt (show a_pn l * 256 + c < 2 ^ 64 by omega)]
  rw [← Nat.shiftLeft_eq, ← Nat.shiftLeft_add_eq_or_of_lt (show c < 2 ^ 8 by omega), Nat.shiftLeft_eq]
