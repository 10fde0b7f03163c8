/-- links to private members of nest mates -/
def mm_nest (w : Cond) : Bool := match w with
  | .fieldLinkNest _ _ _ _ _ _ => true
  | .methodLinkNest _ _ _ _ => true
  | .declares _ => true
  | .castable _ _ => true
  | _ => false
/-- the tables' words that a frame may use -/
def mm_T : List Cond := lx_tbl.filter (fun w => goodWord w || mm_nest w)
theorem inT0 : ∀ w ∈ wsX00, w ∈ mm_T := by decide +kernel
theorem inT1 : ∀ w ∈ wsX10, w ∈ mm_T := by decide +kernel
theorem inT2 : ∀ w ∈ wsX20, w ∈ mm_T := by decide +kernel
theorem inT3 : ∀ w ∈ wsX30, w ∈ mm_T := by decide +kernel
theorem inT4 : ∀ w ∈ wsX40, w ∈ mm_T := by decide +kernel
theorem inT5 : ∀ w ∈ wsX50, w ∈ mm_T := by decide +kernel
theorem inT6 : ∀ w ∈ wsX60, w ∈ mm_T := by decide +kernel
theorem inT7 : ∀ w ∈ wsX70, w ∈ mm_T := by decide +kernel
theorem inT8 : ∀ w ∈ wsX80, w ∈ mm_T := by decide +kernel
theorem inT9 : ∀ w ∈ wsX90, w ∈ mm_T := by decide +kernel
theorem inT10 : ∀ w ∈ wsX100, w ∈ mm_T := by decide +kernel
theorem inT11 : ∀ w ∈ wsJ00, w ∈ mm_T := by decide +kernel
theorem inT12 : ∀ w ∈ wsJ40, w ∈ mm_T := by decide +kernel
/-- the heap is the places' world; while nothing was thrown its size is known -/
def mm_rel (rho : Nat → Nat) (opq : Nat → Value) (cA : Nat → ClassId) (D : va_G) (B : Nat) (s : State) (σ : mm_H) (H : Heap) (locs : List Loc) (cells : Nat) : Prop :=
  va_P D vwCl (mm_w rho opq cA σ.1) H ∧ va_S (fun q => B ≤ q) s.heap H locs ∧ (σ.2.1 = true → H.size = B + σ.1.length ∧ H.size = s.heap.size + cells) ∧ B + σ.1.length ≤ H.size ∧ σ.1.length ≤ 1000000
def mm_rho (rho : Nat → Nat) (B : Nat) : Prop := ∀ k, k < 1000000 → rho k = B + k
theorem mm_w_D {rho : Nat → Nat} {opq : Nat → Value} {cA : Nat → ClassId} {B : Nat} {σ : List mm_C} (hr : mm_rho rho B) (hl : σ.length ≤ 1000000) : va_D (fun q => B ≤ q) (mm_w rho opq cA σ) := by
  have g : ∀ (k : Nat) (q : Nat × va_E), (mm_w rho opq cA σ)[k]? = some q → q.1 = B + k := by
    intro k q h
    simp only [mm_w, List.getElem?_mapIdx, Option.map_eq_some_iff] at h
    obtain ⟨x, h1, h2⟩ := h
    have h3 : k < σ.length := (List.getElem?_eq_some_iff.mp h1).1
    rw [← h2]
    exact hr k (by omega)
  refine ⟨fun i j p q hp hq e => ?_, fun k q hq => ?_⟩
  · have h1 := g i p hp
    have h2 := g j q hq
    omega
  · have h1 := g k q hq
    show B ≤ q.1
    omega
theorem mm_S_tr {A : Nat → Prop} {H0 H H1 : Heap} {locs locs1 : List Loc} (h : va_S A H0 H locs) (h1 : va_S A H H1 locs1) : va_S A H0 H1 locs1 := by
  refine ⟨Nat.le_trans h.1 h1.1, fun q hq hA => ?_, h1.2.2⟩
  rw [h1.2.1 q (Nat.lt_of_lt_of_le hq h.1) hA]
  exact h.2.1 q hq hA
theorem mm_S_self {A : Nat → Prop} {H0 H : Heap} {locs : List Loc} (h : va_S A H0 H locs) : va_S A H H locs := ⟨Nat.le_refl _, fun _ _ _ => rfl, h.2.2⟩
/-- what the classes' tables say, by the class's number -/
theorem mm_cls {ci : Nat} {C : String} {T : u_T} {N : Nat} (h : vwCl[ci]? = some (C, T, N)) : (∀ w ∈ u_ws C T N, w ∈ mm_T) ∧ (∃ ty0 : Nat → FieldType, ∀ k, k < N → parseFieldDescriptor (T k).2.2.1 = some (ty0 k)) ∧ (∀ a, a < N → ∀ b, b < N → a ≠ b → (T a).2.1 ≠ (T b).2.1) := by
  match ci, h with
  | 0, h => cases h; exact ⟨inT0, ⟨tyX0, tyX0_ok⟩, nmX0⟩
  | 1, h => cases h; exact ⟨inT1, ⟨tyX1, tyX1_ok⟩, nmX1⟩
  | 2, h => cases h; exact ⟨inT2, ⟨tyX2, tyX2_ok⟩, nmX2⟩
  | 3, h => cases h; exact ⟨inT3, ⟨tyX3, tyX3_ok⟩, nmX3⟩
  | 4, h => cases h; exact ⟨inT4, ⟨tyX4, tyX4_ok⟩, nmX4⟩
  | 5, h => cases h; exact ⟨inT5, ⟨tyX5, tyX5_ok⟩, nmX5⟩
  | 6, h => cases h; exact ⟨inT6, ⟨tyX6, tyX6_ok⟩, nmX6⟩
  | 7, h => cases h; exact ⟨inT7, ⟨tyX7, tyX7_ok⟩, nmX7⟩
  | 8, h => cases h; exact ⟨inT8, ⟨tyX8, tyX8_ok⟩, nmX8⟩
  | 9, h => cases h; exact ⟨inT9, ⟨tyX9, tyX9_ok⟩, nmX9⟩
  | 10, h => cases h; exact ⟨inT10, ⟨tyX10, tyX10_ok⟩, nmX10⟩
  | 11, h => cases h; exact ⟨inT11, ⟨tyJ0, tyJ0_ok⟩, nmJ0⟩
  | 12, h => cases h; exact ⟨inT12, ⟨tyJ4, tyJ4_ok⟩, nmJ4⟩
  | n + 13, h => simp [vwCl] at h
/-- a field that an instruction of class own names by idx: the k-th of class ci -/
def mm_fE (own : String) (idx ci k : Nat) : Prop := ∃ (C : String) (T : u_T) (N : Nat), vwCl[ci]? = some (C, T, N) ∧ k < N ∧ (Cond.fieldLink own idx (T k).1 (T k).2.1 (T k).2.2.1 ∈ mm_T ∨ ∃ host, Cond.fieldLinkNest own idx (T k).1 (T k).2.1 (T k).2.2.1 host ∈ mm_T)
/-- .. that may be written: not final, or final, in the class's own constructor -/
def mm_fW (own yn : String) (idx ci k : Nat) (ty : FieldType) : Prop := ∃ (C : String) (T : u_T) (N : Nat), vwCl[ci]? = some (C, T, N) ∧ k < N ∧ parseFieldDescriptor (T k).2.2.1 = some ty ∧
  (((T k).2.2.2 = false ∧ (Cond.fieldLink own idx (T k).1 (T k).2.1 (T k).2.2.1 ∈ mm_T ∨ ∃ host, Cond.fieldLinkNest own idx (T k).1 (T k).2.1 (T k).2.2.1 host ∈ mm_T)) ∨ ((T k).2.2.2 = true ∧ yn = "<init>" ∧ (T k).1 = own ∧ Cond.fieldLink own idx (T k).1 (T k).2.1 (T k).2.2.1 ∈ mm_T))
theorem mm_fit_ok {rho : Nat → Nat} {opq : Nat → Value} {ty : FieldType} {v : Value} (h : mm_fit ty v = true) : narrow ty (mm_v rho opq v) = mm_v rho opq v ∧ fits ty (mm_v rho opq v) = true := by
  unfold mm_fit at h
  split at h
  · exact ⟨rfl, rfl⟩
  · exact ⟨rfl, rfl⟩
  · rename_i x
    simp only [Bool.or_eq_true, beq_iff_eq] at h
    rcases h with rfl | rfl <;> exact ⟨rfl, rfl⟩
  · rename_i x
    simp only [Bool.or_eq_true, beq_iff_eq] at h
    rcases h with rfl | rfl <;> exact ⟨rfl, rfl⟩
  · exact ⟨rfl, rfl⟩
  · exact ⟨rfl, rfl⟩
  · exact ⟨rfl, rfl⟩
  · exact ⟨rfl, rfl⟩
  · cases h
theorem mm_fs_at {rho : Nat → Nat} {opq : Nat → Value} {fs : List Value} {j : Nat} {v : Value} (h : fs[j]? = some v) : (fs.map (mm_v rho opq))[j]? = some (mm_v rho opq v) := by
  rw [List.getElem?_map, h]
  rfl
section MMW
variable {p : Program} {l : Launch} {e : Env} {R : Room} {s : State} {m : MethodId} {args : Array Value} {below : List Frame} {meth : Method} {c : Code} {H : Heap} {locs : List Loc} {cells slots : Nat} {Q : State → Prop}
variable {cc : ByteArray} {pc len : Nat} {ls : Array Slot} {rho : Nat → Nat} {opq : Nat → Value} {cA : Nat → ClassId} {D : va_G} {B : Nat} {P : mm_P} {σ : mm_H}
theorem mm_W_size {g : JFrame} (h : H.size ≤ s.heap.size + cells → W p l e R s m args below meth c H locs cells slots Q g) : W p l e R s m args below meth c H locs cells slots Q g := by
  intro T hT X
  exact h (by rw [← hT]; exact X.heapSize) T hT X
/-- behind a write to one place -/
theorem mm_wrote {g : JFrame} {a : Nat} {x : mm_C} {H1 : Heap} {locs1 : List Loc} (hR : mm_rel rho opq cA D B s σ H locs cells) (hP1 : va_P D vwCl (mm_w rho opq cA (σ.1.set a x)) H1) (hS1 : va_S (fun q => B ≤ q) H H1 locs1)
    (k : mm_rel rho opq cA D B s (mm_set σ a x) H1 locs1 cells → W p l e R s m args below meth c H1 locs1 cells slots Q g) : W p l e R s m args below meth c H1 locs1 cells slots Q g := by
  refine mm_W_size fun hz => k ⟨hP1, mm_S_tr hR.2.1 hS1, fun hc => ?_, ?_, ?_⟩
  · obtain ⟨h1, h2⟩ := hR.2.2.1 hc
    have h3 := hS1.1
    have e1 : (mm_set σ a x).1.length = σ.1.length := by simp [mm_set]
    rw [e1]
    omega
  · have h3 := hS1.1
    have e1 : (mm_set σ a x).1.length = σ.1.length := by simp [mm_set]
    have h4 := hR.2.2.2.1
    rw [e1]
    omega
  · have e1 : (mm_set σ a x).1.length = σ.1.length := by simp [mm_set]
    rw [e1]
    exact hR.2.2.2.2
theorem mm_up_map (rho : Nat → Nat) (f : Nat → Option Nat) (i v : Nat) : (fun j => (va_up f i (some v) j).map rho) = va_up (fun j => (f j).map rho) i (some (rho v)) := by
  funext j
  unfold va_up
  by_cases h : j = i <;> simp [h]
theorem mm_awr_sim (hx : p.tables.exec = Jvm.exec) (hb : c.code = cc) (hr : mm_rho rho B) (hK : va_K D vwCl (mm_tys cA) s) (hR : mm_rel rho opq cA D B s σ H locs cells) {i : Instr} {S r : List Value} {σ' : mm_H} (h : mm_awr i σ S = some (σ', r)) (hd : decode cc pc = .ok (i, len)) (hn : len = mm_len i)
    (k : ∀ (H1 : Heap) (locs1 : List Loc), mm_rel rho opq cA D B s σ' H1 locs1 cells → W p l e R s m args below meth c H1 locs1 cells slots Q (F0 m (pc + len) ls (r.map (mm_v rho opq)))) : W p l e R s m args below meth c H locs cells slots Q (F0 m pc ls (S.map (mm_v rho opq))) := by
  subst hn
  have hD := mm_w_D (opq := opq) (cA := cA) hr hR.2.2.2.2
  have hS := mm_S_self hR.2.1
  cases i <;> simp only [mm_awr, reduceCtorEq] at h
  case iastore =>
    split at h
    · split at h
      · rename_i h1
        split at h
        · cases h
        · rename_i h2
          cases h
          exact va_iast hx hb hK hR.1 hD hS _ 0 (mm_w_at h1) rfl h2 hd (fun H1 locs1 hP1 _ hS1 => mm_wrote hR (by rw [mm_w_set]; exact hP1) hS1 (k H1 locs1))
      · cases h
    · cases h
  case lastore =>
    split at h
    · split at h
      · rename_i h1
        split at h
        · cases h
        · rename_i h2
          cases h
          exact va_last hx hb hK hR.1 hD hS _ 1 (mm_w_at h1) rfl h2 hd (fun H1 locs1 hP1 _ hS1 => mm_wrote hR (by rw [mm_w_set]; exact hP1) hS1 (k H1 locs1))
      · cases h
    · cases h
  case bastore =>
    split at h
    · split at h
      · rename_i h1
        split at h
        · cases h
        · rename_i h2
          cases h
          exact va_bast hx hb hK hR.1 hD hS _ 2 (mm_w_at h1) rfl h2 hd (fun H1 locs1 hP1 _ hS1 => mm_wrote hR (by rw [mm_w_set]; exact hP1) hS1 (k H1 locs1))
      · rename_i h1
        split at h
        · cases h
        · rename_i h2
          cases h
          exact va_zast hx hb hK hR.1 hD hS _ 3 (mm_w_at h1) rfl h2 hd (fun H1 locs1 hP1 _ hS1 => mm_wrote hR (by rw [mm_w_set]; exact hP1) hS1 (k H1 locs1))
      · cases h
    · cases h
  case aastore =>
    split at h
    · split at h
      · rename_i h1
        split at h
        · cases h
        · rename_i h2
          split at h
          · rename_i h3
            cases h
            refine va_astq (r := (RX5, TX5, 8)) hx hb hK hR.1 hD hS _ 5 _ 5 (mm_w_at h1) rfl (mm_w_at h3) rfl h2 hd (fun H1 locs1 hP1 _ hS1 => mm_wrote hR ?_ hS1 (k H1 locs1))
            rw [mm_w_set]
            simp only [mm_e, mm_a, mm_up_map]
            exact hP1
          · cases h
      · cases h
    · cases h
theorem mm_getf_sim (hx : p.tables.exec = Jvm.exec) (hb : c.code = cc) (hts : ∀ w ∈ mm_T, w.before args s = true) {own : String} (hown : s.vm.findClass own = some m.cls) (hK : va_K D vwCl (mm_tys cA) s) (hP : va_P D vwCl (mm_w rho opq cA σ.1) H) {ci j idx : Nat} {S r : List Value} (h : mm_getf σ ci j S = some r) (hd : decode cc pc = .ok (.getfield idx, 3)) (hE : mm_fE own idx ci j)
    (k : W p l e R s m args below meth c H locs cells slots Q (F0 m (pc + 3) ls (r.map (mm_v rho opq)))) : W p l e R s m args below meth c H locs cells slots Q (F0 m pc ls (S.map (mm_v rho opq))) := by
  obtain ⟨C, T, N, e1, e2, e3⟩ := hE
  obtain ⟨f1, -, -⟩ := mm_cls e1
  unfold mm_getf at h
  split at h
  · split at h
    · rename_i h1
      split at h
      · rename_i h2
        subst h2
        split at h
        · rename_i v h3
          cases h
          have hv := mm_fs_at (rho := rho) (opq := opq) h3
          rcases e3 with e3 | ⟨host, e3⟩
          · exact va_get hx hb hts f1 hown hK hP _ (mm_w_at h1) e1 j e2 (hts _ e3) (fun _ h9 => h9) hv hd k
          · exact va_getN hx hb hts f1 hown hK hP _ (mm_w_at h1) e1 j e2 (hts _ e3) (fun _ h9 => h9) hv hd k
        · cases h
      · cases h
    · cases h
  · cases h
theorem mm_putf_sim (hx : p.tables.exec = Jvm.exec) (hb : c.code = cc) (hr : mm_rho rho B) (hts : ∀ w ∈ mm_T, w.before args s = true) {own yn : String} (hown : s.vm.findClass own = some m.cls) (hyn : yn = "<init>" → meth.name = "<init>") (hK : va_K D vwCl (mm_tys cA) s) (hR : mm_rel rho opq cA D B s σ H locs cells) {ci j idx : Nat} {S r : List Value} {σ' : mm_H} {ty : FieldType} (h : mm_putf P σ ci j S = some (σ', r)) (hd : decode cc pc = .ok (.putfield idx, 3)) (hty : P.2.2.2.2.2 ci j = some ty) (hE : mm_fW own yn idx ci j ty)
    (k : ∀ (H1 : Heap) (locs1 : List Loc), mm_rel rho opq cA D B s σ' H1 locs1 cells → W p l e R s m args below meth c H1 locs1 cells slots Q (F0 m (pc + 3) ls (r.map (mm_v rho opq)))) : W p l e R s m args below meth c H locs cells slots Q (F0 m pc ls (S.map (mm_v rho opq))) := by
  have hD := mm_w_D (opq := opq) (cA := cA) hr hR.2.2.2.2
  have hS := mm_S_self hR.2.1
  obtain ⟨C, T, N, e1, e2, e3, e4⟩ := hE
  obtain ⟨f1, ⟨ty0, f2⟩, f3⟩ := mm_cls e1
  unfold mm_putf at h
  split at h
  · split at h
    · rename_i h1
      split at h
      · rename_i h2
        subst h2
        rw [hty] at h
        dsimp only at h
        split at h
        · rename_i h4
          cases h
          obtain ⟨n1, n2⟩ := mm_fit_ok (rho := rho) (opq := opq) h4.1
          have fin : ∀ (H1 : Heap) (locs1 : List Loc) {q : Nat} {x : mm_C} {w : va_W}, w = mm_w rho opq cA (σ.1.set q x) → va_P D vwCl w H1 → va_S (fun q => B ≤ q) H H1 locs1 → (mm_rel rho opq cA D B s (mm_set σ q x) H1 locs1 cells → W p l e R s m args below meth c H1 locs1 cells slots Q (F0 m (pc + 3) ls (r.map (mm_v rho opq)))) → W p l e R s m args below meth c H1 locs1 cells slots Q (F0 m (pc + 3) ls (r.map (mm_v rho opq))) := by
            intro H1 locs1 q x w ew hP1 hS1 kk
            subst ew
            exact mm_wrote hR hP1 hS1 kk
          rcases e4 with ⟨g1, g2⟩ | ⟨g1, g2, g3, g4⟩
          · rcases g2 with g2 | ⟨host, g2⟩
            · exact va_put hx hb hts f1 ty0 f2 f3 hown hK hR.1 hD hS _ (mm_w_at h1) e1 j e2 (hts _ g2) (fun _ h9 => h9) g1 e3 n1 n2 (by rw [List.length_map]; exact h4.2) hd (fun H1 locs1 hP1 _ hS1 => fin H1 locs1 (by rw [mm_w_set]; simp only [mm_e, List.map_set]) hP1 hS1 (k H1 locs1))
            · exact va_putN hx hb hts f1 ty0 f2 f3 hown hK hR.1 hD hS _ (mm_w_at h1) e1 j e2 (hts _ g2) (fun _ h9 => h9) g1 e3 n1 n2 (by rw [List.length_map]; exact h4.2) hd (fun H1 locs1 hP1 _ hS1 => fin H1 locs1 (by rw [mm_w_set]; simp only [mm_e, List.map_set]) hP1 hS1 (k H1 locs1))
          · exact va_putF hx hb hts f1 ty0 f2 f3 hown hK hR.1 hD hS _ (mm_w_at h1) e1 j e2 (hts _ g4) (fun _ h9 => h9) g1 (hyn g2) g3 e3 n1 n2 (by rw [List.length_map]; exact h4.2) hd (fun H1 locs1 hP1 _ hS1 => fin H1 locs1 (by rw [mm_w_set]; simp only [mm_e, List.map_set]) hP1 hS1 (k H1 locs1))
        · cases h
      · cases h
    · cases h
  · cases h
end MMW
