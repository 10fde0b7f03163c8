/-- an array's contents, its references by address -/
def mm_a (rho : Nat → Nat) (x : vp_A) : vp_A := match x with
  | (n, .inr (.inr (.inr (.inr f)))) => (n, .inr (.inr (.inr (.inr (fun j => (f j).map rho)))))
  | y => y
def mm_e (rho : Nat → Nat) (opq : Nat → Value) (cA : Nat → ClassId) (x : mm_C) : va_E := match x with
  | .inl (t, y) => .inl (cA t, mm_a rho y)
  | .inr (ci, fs) => .inr (ci, fs.map (mm_v rho opq))
/-- the world of the places -/
def mm_w (rho : Nat → Nat) (opq : Nat → Value) (cA : Nat → ClassId) (σ : List mm_C) : va_W := σ.mapIdx (fun k x => (rho k, mm_e rho opq cA x))
def mm_ty (t : Nat) : FieldType := match t with
  | 0 => .int
  | 1 => .long
  | 2 => .byte
  | 3 => .boolean
  | 4 => .int
  | _ => .object RX5
def mm_tys (cA : Nat → ClassId) : List (ClassId × FieldType) := [(cA 0, .int), (cA 1, .long), (cA 2, .byte), (cA 3, .boolean), (cA 4, .int), (cA 5, .object RX5)]
theorem mm_tys_at (cA : Nat → ClassId) {t : Nat} (h : t < 6) : (mm_tys cA)[t]? = some (cA t, mm_ty t) := by
  rcases (show t = 0 ∨ t = 1 ∨ t = 2 ∨ t = 3 ∨ t = 4 ∨ t = 5 by omega) with rfl | rfl | rfl | rfl | rfl | rfl <;> rfl
theorem mm_w_at {rho : Nat → Nat} {opq : Nat → Value} {cA : Nat → ClassId} {σ : List mm_C} {k : Nat} {x : mm_C} (h : σ[k]? = some x) : (mm_w rho opq cA σ)[k]? = some (rho k, mm_e rho opq cA x) := by
  simp [mm_w, List.getElem?_mapIdx, h]
theorem mm_w_set (rho : Nat → Nat) (opq : Nat → Value) (cA : Nat → ClassId) (σ : List mm_C) (k : Nat) (x : mm_C) : mm_w rho opq cA (σ.set k x) = (mm_w rho opq cA σ).set k (rho k, mm_e rho opq cA x) := by
  apply List.ext_getElem?
  intro j
  simp only [mm_w, List.getElem?_mapIdx, List.getElem?_set, List.length_mapIdx]
  by_cases h : k = j
  · subst h
    by_cases h2 : k < σ.length
    · simp [h2]
    · simp [h2]
  · simp [h]
theorem mm_w_app (rho : Nat → Nat) (opq : Nat → Value) (cA : Nat → ClassId) (σ : List mm_C) (x : mm_C) : mm_w rho opq cA (σ ++ [x]) = mm_w rho opq cA σ ++ [(rho σ.length, mm_e rho opq cA x)] := by
  simp [mm_w, List.mapIdx_append]
/-- what an array holds at j -/
def mm_at (rho : Nat → Nat) (x : vp_A) (j : Nat) : Value := match x.2 with
  | .inl f => .int (f j)
  | .inr (.inl f) => .long (f j)
  | .inr (.inr (.inl f)) => .float (f j)
  | .inr (.inr (.inr (.inl f))) => .double (f j)
  | .inr (.inr (.inr (.inr f))) => va_rf ((f j).map rho)
theorem mm_cell_at (rho : Nat → Nat) (cA : ClassId) (x : vp_A) : vp_cell cA (mm_a rho x) = arrV cA x.1 (mm_at rho x) := by
  obtain ⟨n, f | f | f | f | f⟩ := x <;> rfl
/-- the old arrays stand -/
def mm_oldA (P : mm_P) (rho : Nat → Nat) (B : Nat) (U : State) (H : Heap) : Prop := ∀ (a t : Nat) (x : vp_A), P.1 a = some (t, x) → 1000000 ≤ a → va_T (mm_ty t) (rho a) x.1 (mm_at rho x) (fun q => B ≤ q) U H
theorem mm_v_rf (rho : Nat → Nat) (opq : Nat → Value) (o : Option Nat) : mm_v rho opq (va_rf o) = va_rf (o.map rho) := by
  cases o <;> rfl
section MMR
variable {p : Program} {l : Launch} {e : Env} {R : Room} {s : State} {m : MethodId} {args : Array Value} {below : List Frame} {meth : Method} {c : Code} {H : Heap} {locs : List Loc} {cells slots : Nat} {Q : State → Prop}
variable {cc : ByteArray} {pc len : Nat} {ls : Array Slot} {rho : Nat → Nat} {opq : Nat → Value} {cA : Nat → ClassId} {D : va_G} {B : Nat} {P : mm_P} {σ : mm_H}
theorem mm_arr_cell (hK : va_K D vwCl (mm_tys cA) s) (hP : va_P D vwCl (mm_w rho opq cA σ.1) H) (hS : va_S (fun q => B ≤ q) s.heap H locs) (hO : mm_oldA P rho B s s.heap) {a t : Nat} {x : vp_A} (h : mm_arr P.1 σ a = some (t, x)) (ht : t < 6) :
    ∃ cell : Cell, H[rho a]? = some cell ∧ s.isArrayOf cell (mm_ty t) ∧ cell.vm ≠ .unknown ∧ x.1 ≤ cell.slots.size ∧ cell.slots.size.toInt32 = Int32.ofNat x.1 ∧ ∀ j : Nat, j < x.1 → cell.slots[j]? = some (mm_at rho x j) := by
  unfold mm_arr at h
  split at h
  · split at h
    · rename_i y hy
      cases h
      have h1 := hP a _ (mm_w_at hy)
      have h2 : H[rho a]? = some (arrV (cA t) x.1 (mm_at rho x)) := by
        rw [← mm_cell_at]
        exact h1
      refine ⟨_, h2, (hK.2 t _ (mm_tys_at cA ht)).1 _ _, (fun q => by cases q), (by rw [arrV_size]; exact Nat.le_refl _), (by rw [arrV_size] <;> rfl), fun j hj => ?_⟩
      rw [arrV_read _ _ hj]
    · cases h
  · rename_i h0
    obtain ⟨cell, g1, g2, g3, g4, g5, g6, -⟩ := (hO a t x h (by omega)).kept hS.2.1
    exact ⟨cell, g1, g2, g3, g4, g5, g6⟩
theorem mm_ard_sim (hx : p.tables.exec = Jvm.exec) (hb : c.code = cc) (hK : va_K D vwCl (mm_tys cA) s) (hP : va_P D vwCl (mm_w rho opq cA σ.1) H) (hS : va_S (fun q => B ≤ q) s.heap H locs) (hO : mm_oldA P rho B s s.heap) {i : Instr} {S r : List Value} (h : mm_ard P.1 i σ S = some r) (hd : decode cc pc = .ok (i, len)) (hn : len = mm_len i)
    (k : W p l e R s m args below meth c H locs cells slots Q (F0 m (pc + len) ls (r.map (mm_v rho opq)))) : W p l e R s m args below meth c H locs cells slots Q (F0 m pc ls (S.map (mm_v rho opq))) := by
  subst hn
  have low : ∀ {n : Nat} {j : Int32} {cell : Cell}, ¬ (j < 0 ∨ n ≤ j.toNatClampNeg) → n ≤ cell.slots.size → ¬ (j < 0 ∨ cell.slots.size ≤ j.toNatClampNeg) := by
    intro n j cell h1 h2 h3
    rcases h3 with h3 | h3
    · exact h1 (Or.inl h3)
    · exact h1 (Or.inr (Nat.le_trans h2 h3))
  have lt : ∀ {n : Nat} {j : Int32}, ¬ (j < 0 ∨ n ≤ j.toNatClampNeg) → j.toNatClampNeg < n := fun h => Nat.not_le.mp fun z => h (Or.inr z)
  cases i <;> simp only [mm_ard, reduceCtorEq] at h
  case iaload =>
    split at h
    · split at h
      · rename_i h1
        split at h
        · cases h
        · rename_i h2
          cases h
          obtain ⟨cell, g1, g2, g3, g4, -, g6⟩ := mm_arr_cell hK hP hS hO h1 (by decide)
          exact W.iald hx hb g1 g2 g3 (low h2 g4) (g6 _ (lt h2)) rfl rfl hd k
      · cases h
    · cases h
  case laload =>
    split at h
    · split at h
      · rename_i h1
        split at h
        · cases h
        · rename_i h2
          cases h
          obtain ⟨cell, g1, g2, g3, g4, -, g6⟩ := mm_arr_cell hK hP hS hO h1 (by decide)
          exact W.lald hx hb g1 g2 g3 (low h2 g4) (g6 _ (lt h2)) rfl rfl hd k
      · cases h
    · cases h
  case baload =>
    split at h
    · split at h
      · rename_i h1
        split at h
        · cases h
        · rename_i h2
          cases h
          obtain ⟨cell, g1, g2, g3, g4, -, g6⟩ := mm_arr_cell hK hP hS hO h1 (by decide)
          exact W.bald hx hb g1 g2 g3 (low h2 g4) (g6 _ (lt h2)) rfl rfl hd k
      · rename_i h1
        split at h
        · cases h
        · rename_i h2
          cases h
          obtain ⟨cell, g1, g2, g3, g4, -, g6⟩ := mm_arr_cell hK hP hS hO h1 (by decide)
          exact W.zald hx hb g1 g2 g3 (low h2 g4) (g6 _ (lt h2)) rfl rfl hd k
      · cases h
    · cases h
  case aaload =>
    split at h
    · split at h
      · rename_i h1
        split at h
        · cases h
        · rename_i h2
          cases h
          obtain ⟨cell, g1, g2, g3, g4, -, g6⟩ := mm_arr_cell hK hP hS hO h1 (by decide)
          refine W.aald hx hb g1 g2 rfl g3 (low h2 g4) (g6 _ (lt h2)) rfl rfl hd ?_
          rw [List.map_cons, mm_v_rf] at k
          exact k
      · cases h
    · cases h
  case arraylength =>
    split at h
    · split at h
      · rename_i h1
        split at h
        · rename_i ht
          cases h
          obtain ⟨cell, g1, g2, g3, g4, g5, g6⟩ := mm_arr_cell hK hP hS hO h1 ht
          exact W.alen hx hb g1 g2 g5 rfl rfl hd k
        · cases h
      · cases h
    · cases h
end MMR
