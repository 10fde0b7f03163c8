def k_is (l : List Nat) (p c : Nat) : Bool := decide (k_K l p = 3 ∧ l[k_S l p]? = some c)
def k_wd (l : List Nat) (p : Nat) (w : List Nat) : Bool := decide (k_K l p = 1 ∧ k_W l p = w)
abbrev w_all : List Nat := [97, 108, 108]
abbrev w_some : List Nat := [115, 111, 109, 101]
abbrev w_if : List Nat := [105, 102]
def k_kw (l : List Nat) (p : Nat) : Bool := k_wd l p w_all || (k_wd l p w_some || k_wd l p w_if)
def k_nm (l : List Nat) (p : Nat) : Bool := decide (k_K l p = 1) && !k_kw l p
def k_bit (l : List Nat) (p : Nat) : Bool := decide (k_K l p = 2 ∧ k_E l p = k_S l p + 1 ∧ k_N l p ≤ 1)
theorem k_K4 (l : List Nat) (p : Nat) : k_K l p ≤ 4 := by
  unfold k_K
  split
  · split <;> decide
  · split
    · split <;> decide
    · split <;> decide
theorem k_W_at {l : List Nat} {p : Nat} (hp : p ≤ l.length) (h : k_K l p = 1) {i : Nat} (hi : k_S l p + i < k_E l p) : ∃ c, l[k_S l p + i]? = some c ∧ (k_W l p)[i]? = some c ∧ 97 ≤ c ∧ c ≤ 122 := by
  obtain ⟨h1, -, h3⟩ := k_W_nm hp h
  obtain ⟨c, hc⟩ : ∃ c, (k_W l p)[i]? = some c := ⟨_, List.getElem?_eq_getElem (by omega)⟩
  refine ⟨c, ?_, hc, h1.1 c (List.mem_of_getElem? hc)⟩
  unfold k_W at hc
  rw [List.getElem?_take] at hc
  split at hc
  · rw [List.getElem?_drop] at hc
    exact hc
  · cases hc
theorem k_str_l : ∀ a, k_ok a → a ≠ 37 → (k_str a).length ≤ 7 := by
  intro a ha
  rcases ha with rfl | rfl | rfl | rfl | rfl | rfl | rfl | rfl | rfl | rfl | rfl | rfl | rfl | rfl | rfl | rfl | rfl | rfl | rfl | rfl | rfl | rfl <;> decide
theorem k_str_c : ∀ a, k_ok a → ∀ i, i < (k_str a).length → (k_str a)[i]? = some ((k_str a).getD i 0) ∧ (k_str a).getD i 0 < 128 := by
  intro a ha
  rcases ha with rfl | rfl | rfl | rfl | rfl | rfl | rfl | rfl | rfl | rfl | rfl | rfl | rfl | rfl | rfl | rfl | rfl | rfl | rfl | rfl | rfl | rfl <;> decide
theorem sub_ofN {a b : Nat} (h : b ≤ a) : Int32.ofNat a - Int32.ofNat b = Int32.ofNat (a - b) := by
  rw [show Int32.ofNat a = Int32.ofNat (a - b) + Int32.ofNat b from by rw [← Int32.ofNat_add, Nat.sub_add_cancel h], Int32.add_sub_cancel]
theorem jr {K : mg_K} {a : Nat} (ha : k_ok a) (r : List Value) : mg_isr K 100 (.ref (2000000 + a) :: r) := by
  rcases ha with rfl | rfl | rfl | rfl | rfl | rfl | rfl | rfl | rfl | rfl | rfl | rfl | rfl | rfl | rfl | rfl | rfl | rfl | rfl | rfl | rfl | rfl <;> rfl
section RM
variable {scr : Nat × (Nat → Int32)} {t : List mg_S} {G : mg_G} {l : List Nat} {p : Nat}
end RM
