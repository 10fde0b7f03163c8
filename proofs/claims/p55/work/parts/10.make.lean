def mm_plain (v : Value) : Bool := match v with
  | .ref _ => false
  | .retAddr _ => false
  | _ => true
theorem mm_plain_v {rho : Nat → Nat} {opq : Nat → Value} {v : Value} (h : mm_plain v = true) : mm_v rho opq v = v := by
  cases v <;> first | rfl | cases h
theorem mm_plain_map {rho : Nat → Nat} {opq : Nat → Value} : ∀ {fs : List Value}, fs.all mm_plain = true → fs.map (mm_v rho opq) = fs
  | [], _ => rfl
  | v :: r, h => by
    simp only [List.all_cons, Bool.and_eq_true] at h
    rw [List.map_cons, mm_plain_v h.1, mm_plain_map h.2]
/-- an object of class ci that an instruction of class own makes, its first values fs -/
def mm_nE (own : String) (idx ci : Nat) (fs : List Value) : Prop := ∃ (C : String) (T : u_T) (N : Nat) (ty : Nat → FieldType), vwCl[ci]? = some (C, T, N) ∧ (∀ k, k < N → parseFieldDescriptor (T k).2.2.1 = some (ty k)) ∧ fs.length = N ∧ (∀ k, k < N → defaultValue (ty k) = fs.getD k .null) ∧ fs.all mm_plain = true ∧ Cond.classLink own idx C ∈ mm_T ∧ Cond.instantiable C N ∈ mm_T ∧ Cond.initialized C ∈ mm_T
def mm_at9 (t : Nat) : ArrayType := match t with
  | 0 => .int
  | 1 => .long
  | 2 => .byte
  | 3 => .boolean
  | _ => .double
theorem mm_RA {s : State} {c1 c2 : ClassId} {ty : FieldType} (h1 : va_RA s c1 ty) (h2 : va_RA s c2 ty) : c1 = c2 := by
  cases ty with
  | object C =>
    obtain ⟨-, -, -, -, -, g1⟩ := h1
    obtain ⟨-, -, -, -, -, g2⟩ := h2
    exact Option.some.inj (g1.symm.trans g2)
  | _ => exact Option.some.inj (Eq.trans (Eq.symm h1) h2)
theorem mm_w_len (rho : Nat → Nat) (opq : Nat → Value) (cA : Nat → ClassId) (σ : List mm_C) : (mm_w rho opq cA σ).length = σ.length := by simp [mm_w]
theorem mm_byt_at {f : Nat → Int32} {sp n : Nat} (h : mm_byt f sp n = true) : ∀ i : Nat, i < n → fits .byte (.int (f (sp + i))) = true := fun i hi => List.all_eq_true.mp h i (List.mem_range.mpr hi)
/-- the words of a byte array's copy -/
def mm_clW (own : String) (idx i2 : Nat) : List Cond := [Cond.methodLink own idx ⟨"[B", "clone", "()Ljava/lang/Object;"⟩, Cond.sameMethod "[B" "java/lang/Object" "clone" "()Ljava/lang/Object;", Cond.native ⟨"java/lang/Object", "clone", "()Ljava/lang/Object;"⟩, Cond.instanceMethod ⟨"java/lang/Object", "clone", "()Ljava/lang/Object;"⟩, Cond.selects "[B" ⟨"[B", "clone", "()Ljava/lang/Object;"⟩ ⟨"java/lang/Object", "clone", "()Ljava/lang/Object;"⟩, Cond.castable "[B" "java/lang/Cloneable", Cond.classLink own i2 "[B"]
section MMM
variable {p : Program} {l : Launch} {e : Env} {R : Room} {s : State} {m : MethodId} {args : Array Value} {below : List Frame} {meth : Method} {c : Code} {H : Heap} {locs : List Loc} {cells slots : Nat} {Q : State → Prop}
variable {cc : ByteArray} {pc len : Nat} {ls : Array Slot} {rho : Nat → Nat} {opq : Nat → Value} {cA : Nat → ClassId} {D : va_G} {B : Nat} {P : mm_P} {σ : mm_H}
theorem mm_made {g : JFrame} {q : Nat} {y : va_E} {x : mm_C} {n sl : Nat} {H1 : Heap} (hr : mm_rho rho B) (hR : mm_rel rho opq cA D B s σ H locs cells) (hc : σ.2.1 = true) (hl : σ.1.length < 1000000) (hP1 : va_P D vwCl (mm_w rho opq cA σ.1 ++ [(q, y)]) H1) (hD1 : va_D (fun q => B ≤ q) (mm_w rho opq cA σ.1 ++ [(q, y)])) (hS1 : va_S (fun q => B ≤ q) H H1 locs) (hy : y = mm_e rho opq cA x)
    (k : q = rho σ.1.length → mm_rel rho opq cA D B s (mm_add σ x n) H1 locs (cells + 1) → W p l e R s m args below meth c H1 locs (cells + 1) sl Q g) : W p l e R s m args below meth c H1 locs (cells + 1) sl Q g := by
  refine mm_W_size fun hz => ?_
  obtain ⟨h1, h2⟩ := hR.2.2.1 hc
  have hlast : (mm_w rho opq cA σ.1 ++ [(q, y)])[σ.1.length]? = some (q, y) := by
    rw [List.getElem?_append_right (by rw [mm_w_len]; exact Nat.le_refl _), mm_w_len]
    simp
  have hq1 : q < H1.size := vx_lt hP1 hlast
  have hBq : B ≤ q := hD1.2 _ _ hlast
  have hq2 : ¬ q < H.size := by
    intro hlt
    obtain ⟨k9, hk9⟩ : ∃ k9, q = B + k9 := ⟨q - B, by omega⟩
    have hk : k9 < σ.1.length := by omega
    have h3 : (mm_w rho opq cA σ.1 ++ [(q, y)])[k9]? = some (rho k9, mm_e rho opq cA (σ.1[k9]'hk)) := by
      rw [List.getElem?_append_left (by rw [mm_w_len]; exact hk)]
      exact mm_w_at (List.getElem?_eq_getElem hk)
    have h4 := hD1.1 k9 σ.1.length _ _ h3 hlast (by show rho k9 = q; rw [hr k9 (by omega), hk9])
    omega
  have hq : q = rho σ.1.length := by rw [hr _ hl]; omega
  refine k hq ⟨?_, mm_S_tr hR.2.1 hS1, fun _ => ?_, ?_, ?_⟩
  · show va_P D vwCl (mm_w rho opq cA (σ.1 ++ [x])) H1
    rw [mm_w_app, ← hq, ← hy]
    exact hP1
  · show H1.size = B + (σ.1 ++ [x]).length ∧ _
    rw [List.length_append, List.length_singleton]
    omega
  · show B + (σ.1 ++ [x]).length ≤ H1.size
    rw [List.length_append, List.length_singleton]
    omega
  · show (σ.1 ++ [x]).length ≤ 1000000
    rw [List.length_append, List.length_singleton]
    omega
theorem mm_new_sim (hx : p.tables.exec = Jvm.exec) (hb : c.code = cc) (hr : mm_rho rho B) (hts : ∀ w ∈ mm_T, w.before args s = true) {own : String} (hown : s.vm.findClass own = some m.cls) (hK : va_K D vwCl (mm_tys cA) s) (hR : mm_rel rho opq cA D B s σ H locs cells) {ci idx : Nat} {S : List Value} {σ' : mm_H} {v : Value} {fs : List Value} (h : mm_new P σ ci = some (σ', v)) (hf : P.2.2.2.2.1 ci = some fs) (hd : decode cc pc = .ok (.new idx, 3)) (hE : mm_nE own idx ci fs) (hcells : cells + 1 ≤ R.cells) (hslots : slots + fs.length ≤ R.slots)
    (k : ∀ (H1 : Heap), mm_rel rho opq cA D B s σ' H1 locs (cells + 1) → W p l e R s m args below meth c H1 locs (cells + 1) (slots + fs.length) Q (F0 m (pc + 3) ls ((v :: S).map (mm_v rho opq)))) : W p l e R s m args below meth c H locs cells slots Q (F0 m pc ls (S.map (mm_v rho opq))) := by
  obtain ⟨C, T, N, ty, e1, e2, e3, e4, e5, e6, e7, e8⟩ := hE
  obtain ⟨f1, -, -⟩ := mm_cls e1
  unfold mm_new at h
  split at h
  · rename_i h0
    rw [hf] at h
    cases h
    subst e3
    have hD := mm_w_D (opq := opq) (cA := cA) hr hR.2.2.2.2
    refine va_new (fs := fs) hx hb hts f1 ty e2 hown (hts _ e6) (hts _ e7) (hts _ e8) hK hR.1 hD (mm_S_self hR.2.1) (fun q hq => Nat.le_trans (Nat.le_trans (Nat.le_add_right _ _) hR.2.2.2.1) hq) e1 e4 hcells hslots hd (fun q H1 hP1 hD1 hS1 => ?_)
    refine mm_made (x := .inr (ci, fs)) (n := fs.length) hr hR h0.1 h0.2 hP1 hD1 hS1 (by simp only [mm_e, mm_plain_map e5]) (fun hq hR1 => ?_)
    rw [hq]
    exact k H1 hR1
  · cases h
theorem mm_newa_sim (hx : p.tables.exec = Jvm.exec) (hb : c.code = cc) (hr : mm_rho rho B) (hts : ∀ w ∈ mm_T, w.before args s = true) (hK : va_K D vwCl (mm_tys cA) s) (hR : mm_rel rho opq cA D B s σ H locs cells) {t : Nat} {S r : List Value} {σ' : mm_H} (h : mm_newa σ t S = some (σ', r)) (ht : t < 4) (hd : decode cc pc = .ok (.newarray (mm_at9 t), 2)) (hE : Cond.arrayClass (mm_ty t) ∈ mm_T) (hcells : cells + 1 ≤ R.cells) (hslots : slots + (σ'.2.2.2 - σ.2.2.2) ≤ R.slots)
    (k : ∀ (H1 : Heap), mm_rel rho opq cA D B s σ' H1 locs (cells + 1) → W p l e R s m args below meth c H1 locs (cells + 1) (slots + (σ'.2.2.2 - σ.2.2.2)) Q (F0 m (pc + 2) ls (r.map (mm_v rho opq)))) : W p l e R s m args below meth c H locs cells slots Q (F0 m pc ls (S.map (mm_v rho opq))) := by
  unfold mm_newa at h
  split at h
  · rename_i n r'
    split at h
    · rename_i h0
      split at h
      · rename_i a0 hz
        cases h
        have hD := mm_w_D (opq := opq) (cA := cA) hr hR.2.2.2.2
        have hsl : (mm_add σ (.inl (t, a0)) n.toNatClampNeg).2.2.2 - σ.2.2.2 = n.toNatClampNeg := by simp [mm_add]
        rw [hsl] at hslots k
        have hty : newarray.typeOf (mm_at9 t) = mm_ty t := by
          rcases (show t = 0 ∨ t = 1 ∨ t = 2 ∨ t = 3 by omega) with rfl | rfl | rfl | rfl <;> rfl
        have ha : ∀ c0 : ClassId, vp_cell c0 (mm_a rho a0) = arrV c0 n.toNatClampNeg (fun _ => defaultValue (mm_ty t)) := by
          rcases (show t = 0 ∨ t = 1 ∨ t = 2 ∨ t = 3 by omega) with rfl | rfl | rfl | rfl <;> cases hz <;> intro c0 <;> rfl
        have hby : n.toNatClampNeg * componentBytes (mm_ty t) ≤ 536870912 := by
          have h8 : componentBytes (mm_ty t) ≤ 8 := by
            rcases (show t = 0 ∨ t = 1 ∨ t = 2 ∨ t = 3 by omega) with rfl | rfl | rfl | rfl <;> decide
          exact Nat.le_trans (Nat.mul_le_mul (Nat.le_of_lt h0.2.2.2) h8) (Nat.le_of_ble_eq_true rfl)
        refine va_newa hx hb (by rw [hty]; exact hts _ hE) hty hK hR.1 hD (mm_S_self hR.2.1) (fun q hq => Nat.le_trans (Nat.le_trans (Nat.le_add_right _ _) hR.2.2.2.1) hq) (a0 := mm_a rho a0) ha h0.2.2.1 rfl hby hcells hslots hd (fun q c0 H1 hK1 hP1 hD1 hS1 => ?_)
        have hc0 : c0 = cA t := mm_RA (hK1.2 6 (c0, mm_ty t) rfl).2 (hK.2 t (cA t, mm_ty t) (mm_tys_at cA (by omega))).2
        subst hc0
        refine mm_made (x := .inl (t, a0)) (n := n.toNatClampNeg) hr hR h0.1 h0.2.1 hP1 hD1 hS1 rfl (fun hq hR1 => ?_)
        rw [hq]
        exact k H1 hR1
      · cases h
    · cases h
  · cases h
theorem mm_newq_sim (hx : p.tables.exec = Jvm.exec) (hb : c.code = cc) (hr : mm_rho rho B) (hts : ∀ w ∈ mm_T, w.before args s = true) (hAO : va_AO RX5 s) {own : String} (hown : s.vm.findClass own = some m.cls) (hK : va_K D vwCl (mm_tys cA) s) (hR : mm_rel rho opq cA D B s σ H locs cells) {idx : Nat} {S r : List Value} {σ' : mm_H} (h : mm_newa σ 5 S = some (σ', r)) (hd : decode cc pc = .ok (.anewarray idx, 3)) (hE : Cond.classLink own idx RX5 ∈ mm_T) (hcells : cells + 1 ≤ R.cells) (hslots : slots + (σ'.2.2.2 - σ.2.2.2) ≤ R.slots)
    (k : ∀ (H1 : Heap), mm_rel rho opq cA D B s σ' H1 locs (cells + 1) → W p l e R s m args below meth c H1 locs (cells + 1) (slots + (σ'.2.2.2 - σ.2.2.2)) Q (F0 m (pc + 3) ls (r.map (mm_v rho opq)))) : W p l e R s m args below meth c H locs cells slots Q (F0 m pc ls (S.map (mm_v rho opq))) := by
  unfold mm_newa at h
  split at h
  · rename_i n r'
    split at h
    · rename_i h0
      split at h
      · rename_i a0 hz
        cases h
        have hD := mm_w_D (opq := opq) (cA := cA) hr hR.2.2.2.2
        have hsl : (mm_add σ (.inl (5, a0)) n.toNatClampNeg).2.2.2 - σ.2.2.2 = n.toNatClampNeg := by simp [mm_add]
        rw [hsl] at hslots k
        cases hz
        have hby : n.toNatClampNeg * 4 ≤ 536870912 := Nat.le_trans (Nat.mul_le_mul (Nat.le_of_lt h0.2.2.2) (Nat.le_refl 4)) (Nat.le_of_ble_eq_true rfl)
        refine va_newq hx hb hown (hts _ hE) hAO hK hR.1 hD (mm_S_self hR.2.1) (fun q hq => Nat.le_trans (Nat.le_trans (Nat.le_add_right _ _) hR.2.2.2.1) hq) h0.2.2.1 rfl hby hcells hslots hd (fun q c0 H1 hK1 hP1 hD1 hS1 => ?_)
        have hc0 : c0 = cA 5 := mm_RA (hK1.2 6 (c0, .object RX5) rfl).2 (hK.2 5 (cA 5, .object RX5) rfl).2
        subst hc0
        refine mm_made (x := .inl (5, (n.toNatClampNeg, .inr (.inr (.inr (.inr (fun _ => none))))))) (n := n.toNatClampNeg) hr hR h0.1 h0.2.1 hP1 hD1 hS1 rfl (fun hq hR1 => ?_)
        rw [hq]
        exact k H1 hR1
      · cases h
    · cases h
  · cases h
theorem mm_mon0 : (F0 m pc ls ([] : List Value)).monitorRoom = 0 := rfl
theorem mm_sum_v (ho : mm_opq opq) (S : List Value) : ((S.map (mm_v rho opq)).map fun v => v.category).sum = mm_sum S := by
  unfold mm_sum
  rw [List.map_map]
  congr 1
  apply List.map_congr_left
  intro v _
  exact mm_v_cat ho v
theorem mm_wrote0 {g : JFrame} {a : Nat} {x y : mm_C} {H1 : Heap} {locs1 : List Loc} (hr : mm_rho rho B) (hR : mm_rel rho opq cA D B s σ H locs cells) (ha : σ.1[a]? = some y) (hP1 : va_P D vwCl (mm_w rho opq cA (σ.1.set a x)) H1) (hS1 : va_S (fun q => B ≤ q) s.heap H1 locs1)
    (k : mm_rel rho opq cA D B s (mm_set σ a x) H1 locs1 cells → W p l e R s m args below meth c H1 locs1 cells slots Q g) : W p l e R s m args below meth c H1 locs1 cells slots Q g := by
  refine mm_W_size fun hz => k ?_
  have hlt : a < σ.1.length := (List.getElem?_eq_some_iff.mp ha).1
  have hlen : (σ.1.set a x).length = σ.1.length := List.length_set
  have hml := hR.2.2.2.2
  have hlast : (mm_w rho opq cA (σ.1.set a x))[σ.1.length - 1]? = some (rho (σ.1.length - 1), mm_e rho opq cA ((σ.1.set a x)[σ.1.length - 1]'(by omega))) := mm_w_at (List.getElem?_eq_getElem (by omega))
  have hq := vx_lt hP1 hlast
  rw [hr _ (by omega)] at hq
  refine ⟨hP1, hS1, fun hc => ?_, ?_, ?_⟩
  · obtain ⟨g1, g2⟩ := hR.2.2.1 hc
    show H1.size = B + (σ.1.set a x).length ∧ _
    rw [hlen]
    omega
  · show B + (σ.1.set a x).length ≤ H1.size
    rw [hlen]
    omega
  · show (σ.1.set a x).length ≤ 1000000
    rw [hlen]
    exact hml
theorem mm_copy_sim (hx : p.tables.exec = Jvm.exec) (hb : c.code = cc) (ho : mm_opq opq) (hr : mm_rho rho B) (hml : c.maxLocals = ls.size) (hts : ∀ w ∈ mm_T, w.before args s = true) {own : String} (hown : s.vm.findClass own = some m.cls) (hK : va_K D vwCl (mm_tys cA) s) (hR : mm_rel rho opq cA D B s σ H locs cells) {idx : Nat} {S r : List Value} {σ' : mm_H} (hO : mm_oldA P rho B s s.heap) (hSs : va_S (fun q => B ≤ q) s.heap H locs) (h : mm_copy P σ S = some (σ', r)) (hs24 : mm_sum r ≤ 24) (hd : decode cc pc = .ok (.invokestatic idx, 3)) (hE : Cond.methodLink own idx arraycopyName ∈ mm_T) (hE2 : Cond.native arraycopyName ∈ mm_T ∧ Cond.static arraycopyName ∈ mm_T ∧ Cond.initialized "java/lang/System" ∈ mm_T) (hfr : 1 ≤ R.frames) (hlo : 24 + (nativeFrameWords "java/lang/System" "arraycopy" 5 + 11) ≤ R.locals)
    (k : ∀ (H1 : Heap) (locs1 : List Loc), mm_rel rho opq cA D B s σ' H1 locs1 cells → W p l e R s m args below meth c H1 locs1 cells slots Q (F0 m (pc + 3) ls (r.map (mm_v rho opq)))) : W p l e R s m args below meth c H locs cells slots Q (F0 m pc ls (S.map (mm_v rho opq))) := by
  have hD := mm_w_D (opq := opq) (cA := cA) hr hR.2.2.2.2
  have hS := mm_S_self hR.2.1
  have hloc : ∀ r0 : List Value, mm_sum r0 ≤ 24 → ((r0.map (mm_v rho opq)).map fun v => v.category).sum + (nativeFrameWords "java/lang/System" "arraycopy" 5 + 11) ≤ R.locals := by
    intro r0 h0
    rw [mm_sum_v ho]
    omega
  unfold mm_copy at h
  split at h
  · split at h
    · cases h
    · rename_i h0
      split at h
      · rename_i h1 h2
        split at h
        · rename_i h3
          cases h
          exact va_copyi hx hb hml hown (hts _ hE) (hts _ hE2.1) (hts _ hE2.2.1) (hts _ hE2.2.2) hK hR.1 hD hS _ _ 0 0 (mm_w_at h1) (mm_w_at h2) rfl rfl rfl (fun z => h0 (Or.inl z)) (fun z => h0 (Or.inr (Or.inl z))) (fun z => h0 (Or.inr (Or.inr z))) h3.1 h3.2 (fun _ _ => rfl) hfr (hloc _ hs24) hd (fun H1 locs1 hP1 _ hS1 => mm_wrote hR (by rw [mm_w_set]; exact hP1) hS1 (k H1 locs1))
        · cases h
      · rename_i h1 h2
        split at h
        · rename_i h3
          cases h
          exact va_copyl hx hb hml hown (hts _ hE) (hts _ hE2.1) (hts _ hE2.2.1) (hts _ hE2.2.2) hK hR.1 hD hS _ _ 1 1 (mm_w_at h1) (mm_w_at h2) rfl rfl rfl (fun z => h0 (Or.inl z)) (fun z => h0 (Or.inr (Or.inl z))) (fun z => h0 (Or.inr (Or.inr z))) h3.1 h3.2 (fun _ _ => rfl) hfr (hloc _ hs24) hd (fun H1 locs1 hP1 _ hS1 => mm_wrote hR (by rw [mm_w_set]; exact hP1) hS1 (k H1 locs1))
        · cases h
      · rename_i h1 h2
        split at h
        · rename_i h3
          cases h
          exact va_copyi hx hb hml hown (hts _ hE) (hts _ hE2.1) (hts _ hE2.2.1) (hts _ hE2.2.2) hK hR.1 hD hS _ _ 2 2 (mm_w_at h1) (mm_w_at h2) rfl rfl rfl (fun z => h0 (Or.inl z)) (fun z => h0 (Or.inr (Or.inl z))) (fun z => h0 (Or.inr (Or.inr z))) h3.1 h3.2.1 (mm_byt_at h3.2.2) hfr (hloc _ hs24) hd (fun H1 locs1 hP1 _ hS1 => mm_wrote hR (by rw [mm_w_set]; exact hP1) hS1 (k H1 locs1))
        · cases h
      · rename_i h1 h2
        split at h
        · rename_i ho2
          split at h
          · rename_i h3
            cases h
            have hT := hO _ 2 _ ho2 h3.1
            refine vk_copyt hx hb hml hown (hts _ hE) (hts _ hE2.1) (hts _ hE2.2.1) (hts _ hE2.2.2) hK hR.1 hD hSs hT _ 2 (mm_w_at h2) rfl (fun z => h0 (Or.inl z)) (fun z => h0 (Or.inr (Or.inl z))) (fun z => h0 (Or.inr (Or.inr z))) h3.2.1 h3.2.2.1 (mm_byt_at h3.2.2.2) hfr (hloc _ hs24) hd (fun H1 locs1 hP1 _ hS1 => mm_wrote0 hr hR h2 (by rw [mm_w_set]; exact hP1) hS1 (k H1 locs1))
          · cases h
        · cases h
      · cases h
  · cases h
theorem mm_clone_sim (hx : p.tables.exec = Jvm.exec) (hb : c.code = cc) (ho : mm_opq opq) (hr : mm_rho rho B) (hml : c.maxLocals = ls.size) (hts : ∀ w ∈ mm_T, w.before args s = true) (hnest : ∀ w ∈ mm_T, mm_nest w = true → va_Nw w s) {own : String} (hown : s.vm.findClass own = some m.cls) (hK : va_K D vwCl (mm_tys cA) s) (hR : mm_rel rho opq cA D B s σ H locs cells) {idx i2 : Nat} {S r : List Value} {σ' : mm_H} (h : mm_clone σ S = some (σ', r)) (hs24 : mm_sum r ≤ 24) (hd : decode cc pc = .ok (.invokevirtual idx, 3)) (hd2 : decode cc (pc + 3) = .ok (.checkcast i2, 3)) (hE : ∀ w ∈ mm_clW own idx i2, w ∈ mm_T) (hfr : 1 ≤ R.frames) (hlo : 40 ≤ R.locals) (hcells : cells + 1 ≤ R.cells) (hslots : slots + (σ'.2.2.2 - σ.2.2.2) ≤ R.slots)
    (k : ∀ (H1 : Heap), mm_rel rho opq cA D B s σ' H1 locs (cells + 1) → W p l e R s m args below meth c H1 locs (cells + 1) (slots + (σ'.2.2.2 - σ.2.2.2)) Q (F0 m (pc + 6) ls (r.map (mm_v rho opq)))) : W p l e R s m args below meth c H locs cells slots Q (F0 m pc ls (S.map (mm_v rho opq))) := by
  have hD := mm_w_D (opq := opq) (cA := cA) hr hR.2.2.2.2
  unfold mm_clone at h
  split at h
  · rename_i a r0
    split at h
    · rename_i n f h1
      split at h
      · rename_i h0
        cases h
        have hsl : (mm_add σ (.inl (2, n, .inl f)) n).2.2.2 - σ.2.2.2 = n := by simp [mm_add]
        rw [hsl] at hslots k
        have hnm : s.vm.findClass "[B" = some (cA 2) := va_nm_byte (hK.2 2 _ (mm_tys_at cA (by omega))).2
        have e1 := hts _ (hE _ (List.mem_of_getElem? (i := 0) rfl))
        have e2 := hts _ (hE _ (List.mem_of_getElem? (i := 1) rfl))
        have e3 := hts _ (hE _ (List.mem_of_getElem? (i := 2) rfl))
        have e4 := hts _ (hE _ (List.mem_of_getElem? (i := 3) rfl))
        have e5 := hts _ (hE _ (List.mem_of_getElem? (i := 4) rfl))
        have e6 := hnest _ (hE _ (List.mem_of_getElem? (i := 5) rfl)) rfl
        have e7 := hts _ (hE _ (List.mem_of_getElem? (i := 6) rfl))
        have h25 : mm_sum r0 ≤ 24 := by
          have e8 : mm_sum (Value.ref σ.1.length :: r0) = 1 + mm_sum r0 := by simp [mm_sum, Value.category]
          omega
        have hfit : ∀ (i : Nat) (v : Value), (vp_cell (cA 2) (n, .inl f)).slots[i]? = some v → fits .byte v = true := by
          intro i v hv
          have hi : i < n := by
            have h9 := (Array.getElem?_eq_some_iff.mp hv).1
            rw [show (vp_cell (cA 2) (n, .inl f)).slots.size = n from arrV_size _ _ _] at h9
            exact h9
          rw [show (vp_cell (cA 2) (n, .inl f)).slots[i]? = some (Value.int (f i)) from arrV_read _ _ hi] at hv
          cases hv
          have h9 := mm_byt_at h0.2.2 i hi
          rw [Nat.zero_add] at h9
          exact h9
        refine va_clone hx hb hml hown e1 e2 e3 e4 e5 e6 hK hR.1 hD (mm_S_self hR.2.1) (fun q hq => Nat.le_trans (Nat.le_trans (Nat.le_add_right _ _) hR.2.2.2.1) hq) a 2 (mm_w_at h1) (mm_tys_at cA (by omega)) hnm hfit hfr (by rw [mm_sum_v ho]; omega) hcells hslots hd (fun q H1 hK1 hP1 hD1 hS1 => ?_)
        refine va_castA hx hb hown e7 hP1 σ.1.length (x := mm_a rho (n, .inl f)) (cA := cA 2) (by rw [List.getElem?_append_right (by rw [mm_w_len]; exact Nat.le_refl _), mm_w_len]; simp) hnm hd2 ?_
        refine mm_made (x := .inl (2, (n, .inl f))) (n := n) hr hR h0.1 h0.2.1 hP1 hD1 hS1 rfl (fun hq hR1 => ?_)
        rw [hq]
        exact k H1 hR1
      · cases h
    · cases h
  · cases h
theorem mm_obj_sim (hx : p.tables.exec = Jvm.exec) (hb : c.code = cc) (ho : mm_opq opq) (hml : c.maxLocals = ls.size) (hts : ∀ w ∈ mm_T, w.before args s = true) {own : String} (hown : s.vm.findClass own = some m.cls) {idx a : Nat} {r : List Value} (hs24 : mm_sum r ≤ 24) (hd : decode cc pc = .ok (.invokespecial idx, 3)) (hE : Cond.methodLink own idx objectInit ∈ mm_T) (hE2 : Cond.instanceMethod objectInit ∈ mm_T ∧ Cond.code objectInit ⟨#[0xb1]⟩ 1 none ∈ mm_T) (hfr : 1 ≤ R.frames) (hlo : 36 ≤ R.locals)
    (k : W p l e R s m args below meth c H locs cells slots Q (F0 m (pc + 3) ls (r.map (mm_v rho opq)))) : W p l e R s m args below meth c H locs cells slots Q (F0 m pc ls ((.ref a :: r).map (mm_v rho opq))) := by
  refine W.objInit hx hb hown (hts _ hE) (hts _ hE2.1) (hts _ hE2.2) rfl (by rw [hml]) rfl hd hfr ?_ k
  show 2 * 0 + ((r.map (mm_v rho opq)).map fun v => v.category).sum + 12 ≤ R.locals
  rw [mm_sum_v ho]
  omega
end MMM
