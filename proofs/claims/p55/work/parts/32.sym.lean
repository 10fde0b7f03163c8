/-! a program that makes of a piece of code what is to be shown of it: a branch gives two goals with what was tested, each use of memory what is read, each call what is asked of the callee -/
def mg_fo {α : Type} : List α → (List α → Prop) → Prop
  | [], k => k []
  | a :: r, k => mg_fo r (fun r' => k (a :: r'))
theorem mg_fo_eq {α : Type} : ∀ (L : List α) (k : List α → Prop), mg_fo L k = k L
  | [], k => rfl
  | a :: r, k => mg_fo_eq r (fun r' => k (a :: r'))
abbrev mg_W : Type := Nat → mm_L → List Value → mg_G → mg_Q → Prop
def mg_sw (w : mg_W) (pc : Nat) (x : Int32) (L : mm_L) (S : List Value) (G : mg_G) (Q : mg_Q) : Int → List Int → Prop
  | _, [] => True
  | lo, o :: r => (x.toInt = lo → (match mm_to pc o with
    | some t => w t L S G Q
    | none => False)) ∧ mg_sw w pc x L S G Q (lo + 1) r
def mg_cc (cc : ClassFile.Cond) (x y : Int32) (A B : Prop) : Prop := match cc with
  | .eq => (x = y → A) ∧ (¬ x = y → B)
  | .ne => (¬ x = y → A) ∧ (x = y → B)
  | .lt => (x < y → A) ∧ (y ≤ x → B)
  | .ge => (y ≤ x → A) ∧ (x < y → B)
  | .gt => (y < x → A) ∧ (x ≤ y → B)
  | .le => (x ≤ y → A) ∧ (y < x → B)
theorem mg_cc_ok {cc : ClassFile.Cond} {x y : Int32} {A B : Prop} (h : mg_cc cc x y A B) : (mm_c0 cc x y → A) ∧ (¬ mm_c0 cc x y → B) := by
  cases cc
  · exact h
  · exact ⟨h.1, fun q => h.2 (Decidable.not_not.mp q)⟩
  · exact ⟨h.1, fun q => h.2 (Int32.not_lt.mp q)⟩
  · exact ⟨h.1, fun q => h.2 (Int32.not_le.mp q)⟩
  · exact ⟨h.1, fun q => h.2 (Int32.not_lt.mp q)⟩
  · exact ⟨h.1, fun q => h.2 (Int32.not_le.mp q)⟩
def mg_brp (w : mg_W) (pc len : Nat) (i : Instr) (L : mm_L) (S : List Value) (G : mg_G) (Q : mg_Q) : Prop := match i with
  | .goto off => (match mm_to pc off with
    | some t => w t L S G Q
    | none => False)
  | .ifCond cc off => (match mm_to pc off with
    | some t => (match S with
      | .int x :: r => mg_cc cc x 0 (w t L r G Q) (w (pc + len) L r G Q)
      | _ => False)
    | none => False)
  | .if_icmp cc off => (match mm_to pc off with
    | some t => (match S with
      | .int y :: .int x :: r => mg_cc cc x y (w t L r G Q) (w (pc + len) L r G Q)
      | _ => False)
    | none => False)
  | .ifnull off => (match mm_to pc off with
    | some t => (match S with
      | .null :: r => w t L r G Q
      | .ref _ :: r => w (pc + len) L r G Q
      | _ => False)
    | none => False)
  | .ifnonnull off => (match mm_to pc off with
    | some t => (match S with
      | .null :: r => w (pc + len) L r G Q
      | .ref _ :: r => w t L r G Q
      | _ => False)
    | none => False)
  | .tableswitch df lo hi offs => (match S with
    | .int x :: r => hi < lo + offs.toList.length ∧ ((x.toInt < lo ∨ hi < x.toInt) → (match mm_to pc df with
      | some t => w t L r G Q
      | none => False)) ∧ mg_sw w pc x L r G Q lo offs.toList
    | _ => False)
  | _ => False
def mg_ardp (K : mg_K) (w : mg_W) (pc : Nat) (i : Instr) (L : mm_L) (S : List Value) (G : mg_G) (Q : mg_Q) : Prop := match i with
  | .iaload => (match S with
    | .int j :: .ref a :: r => ∃ n f k, mg_A K G a 0 n (.inl f) ∧ mg_ix j k ∧ k < n ∧ w pc L (.int (f k) :: r) G Q
    | _ => False)
  | .laload => (match S with
    | .int j :: .ref a :: r => ∃ n f k, mg_A K G a 1 n (.inr (.inl f)) ∧ mg_ix j k ∧ k < n ∧ w pc L (.long (f k) :: r) G Q
    | _ => False)
  | .baload => (match S with
    | .int j :: .ref a :: r => ∃ t n f k, mg_A K G a t n (.inl f) ∧ (t = 2 ∨ t = 3) ∧ mg_ix j k ∧ k < n ∧ w pc L (.int (f k) :: r) G Q
    | _ => False)
  | .aaload => (match S with
    | .int j :: .ref a :: r => ∃ n f k v, mg_A K G a 5 n (.inr (.inr (.inr (.inr f)))) ∧ mg_ix j k ∧ k < n ∧ f k = some v ∧ w pc L (.ref v :: r) G Q
    | _ => False)
  | .arraylength => (match S with
    | .ref a :: r => ∃ t n f, mg_A K G a t n f ∧ t < 6 ∧ w pc L (.int (Int32.ofNat n) :: r) G Q
    | _ => False)
  | _ => False
def mg_awrp (K : mg_K) (w : mg_W) (pc : Nat) (i : Instr) (L : mm_L) (S : List Value) (G : mg_G) (Q : mg_Q) : Prop := match i with
  | .iastore => (match S with
    | .int x :: .int j :: .ref a :: r => ∃ n k, K.2[a]? = some (.inl (0, n)) ∧ mg_ix j k ∧ k < n ∧ w pc L r (mg_u2 G.1 a k x, G.2) Q
    | _ => False)
  | .lastore => (match S with
    | .long x :: .int j :: .ref a :: r => ∃ n k, K.2[a]? = some (.inl (1, n)) ∧ mg_ix j k ∧ k < n ∧ w pc L r (G.1, mg_u2 G.2.1 a k x, G.2.2) Q
    | _ => False)
  | .bastore => (match S with
    | .int x :: .int j :: .ref a :: r => ∃ t n k, K.2[a]? = some (.inl (t, n)) ∧ mg_ix j k ∧ k < n ∧ (t = 2 ∨ t = 3) ∧ w pc L r (mg_u2 G.1 a k (vp_nar (if t = 2 then .byte else .boolean) x), G.2) Q
    | _ => False)
  | _ => False
def mg_cpp (K : mg_K) (w : mg_W) (pc : Nat) (L : mm_L) (S : List Value) (G : mg_G) (Q : mg_Q) : Prop := match S with
  | .int n :: .int dp :: .ref b :: .int sp :: .ref a :: r => mm_sum r ≤ 24 ∧ ∃ n' dp' sp' n0 n1, mg_ix n n' ∧ mg_ix dp dp' ∧ mg_ix sp sp' ∧ sp' + n' ≤ n0 ∧ dp' + n' ≤ n1 ∧
    ((K.2[a]? = some (.inl (0, n0)) ∧ K.2[b]? = some (.inl (0, n1)) ∧ w pc L r (mg_u G.1 b (va_cpy (G.1 a) (G.1 b) sp' dp' n'), G.2) Q) ∨
     (K.2[a]? = some (.inl (1, n0)) ∧ K.2[b]? = some (.inl (1, n1)) ∧ w pc L r (G.1, mg_u G.2.1 b (va_cpy (G.2.1 a) (G.2.1 b) sp' dp' n'), G.2.2) Q))
  | _ => False
def mg_one (K : mg_K) (d : Nat) (w : mg_W) (op : mm_Op) (pc len : Nat) (L : mm_L) (S : List Value) (G : mg_G) (Q : mg_Q) : Prop := match op with
  | (0, _, _, _, _, i, _) => (match mm_alu i S with
    | some r => w (pc + len) L r G Q
    | none => False)
  | (1, _, _, _, _, i, _) => mg_brp w pc len i L S G Q
  | (2, _, _, _, _, i, _) => (match mm_loc i L S with
    | some (L', r) => mg_fo L' (fun L2 => w (pc + len) L2 r G Q)
    | none => False)
  | (3, _, _, _, _, i, _) => mg_ardp K w (pc + len) i L S G Q
  | (4, a, _, _, _, i, _) => (match i with
    | .ireturn => (match S with
      | [.int v] => (a = 0 ∨ narrow (mm_rt a) (.int v) = .int v) ∧ Q (.inl (some (.int v))) 0 G
      | _ => False)
    | _ => (match mm_ret a i S with
      | some o => Q (.inl o) 0 G
      | none => False))
  | (5, a, _, _, _, _, _) => (match mm_kon a with
    | some v => w (pc + len) L (v :: S) G Q
    | none => False)
  | (6, a, _, _, _, _, _) => w (pc + len) L (.ref (2000000 + a) :: S) G Q
  | (7, a, b, _, _, _, _) => (match S with
    | .ref x :: r => ∃ v, mg_F K G x a b v ∧ w (pc + len) L (v :: r) G Q
    | _ => False)
  | (8, a, b, _, _, _, _) => (match S with
    | v :: .ref x :: r => (match mm_fty a b with
      | some ty => mm_fit ty v = true ∧ ∃ T, K.2[x]? = some (.inr (a, T)) ∧ T[b]? = some none ∧ w (pc + len) L r (G.1, G.2.1, G.2.2.1, G.2.2.2.1, mg_u2 G.2.2.2.2 x b v) Q
      | none => False)
    | _ => False)
  | (9, a, _, _, _, _, _) => (match mm_sta9 a with
    | some v => w (pc + len) L (v :: S) G Q
    | none => False)
  | (10, a, _, _, _, _, _) => (match S with
    | .ref x :: r => (match mm_ofl x a with
      | some v => w (pc + len) L (v :: r) G Q
      | none => x < 1000000 ∧ ∃ v, mg_F K G x 11 a v ∧ w (pc + len) L (v :: r) G Q)
    | _ => False)
  | (13, _, _, _, _, i, _) => mg_awrp K w (pc + len) i L S G Q
  | (15, a, b, e1, e2, _, hs) => (match mm_take b S with
    | some (A, rest) => (e2 = 1 ∨ mg_isr K e1 A) ∧ mg_fo A (fun A2 => mg_m K d a A2 G (mg_bk K hs pc L rest w Q))
    | none => False)
  | (16, _, _, _, _, _, hs) => (match hs with
    | (E, _) :: _ => mm_sum S ≤ 24 ∧ Q (.inr E) 1 G
    | [] => False)
  | (17, _, _, _, _, _, _) => mg_cpp K w (pc + len) L S G Q
  | (18, _, _, _, _, _, _) => (match S with
    | .int y :: .int x :: r => mm_sum r ≤ 24 ∧ w (pc + len) L (.int (if x < y then y else x) :: r) G Q
    | _ => False)
  | (19, _, _, _, _, _, _) => (match S with
    | .int y :: .int x :: r => mm_sum r ≤ 24 ∧ w (pc + len) L (.int (if y < x then y else x) :: r) G Q
    | _ => False)
  | _ => False
theorem mm_ofl_big {x a : Nat} {v : Value} (h : mm_ofl x a = some v) : ¬ x < 1000000 := by
  unfold mm_ofl at h
  split at h
  · rename_i h0
    omega
  · cases h
section MG
variable {K : mg_K} {c : mm_Code} {d : Nat} {w : mg_W}
theorem mg_sw_ok {pc : Nat} {x : Int32} {L : mm_L} {S : List Value} {G : mg_G} {Q : mg_Q} : ∀ {offs : List Int} {lo : Int} {i : Nat} {off : Int}, mg_sw w pc x L S G Q lo offs → offs[i]? = some off → x.toInt = lo + i → ∃ t, mm_to pc off = some t ∧ w t L S G Q
  | [], lo, i, off, h, hi, hx => by simp at hi
  | o :: r, lo, 0, off, h, hi, hx => by
    cases Option.some.inj (show some o = some off from hi)
    have h1 := h.1 (by omega)
    split at h1
    · rename_i t e
      exact ⟨t, e, h1⟩
    · exact h1.elim
  | o :: r, lo, i + 1, off, h, hi, hx => mg_sw_ok h.2 (show r[i]? = some off from hi) (by omega)
theorem mg_brp_ok (hw : ∀ pc L S G Q, w pc L S G Q → mg_wp K c d pc L S G Q) {pc len a b e1 e2 : Nat} {i : Instr} {hs : List (String × Nat × Nat × Nat)} {L : mm_L} {S : List Value} {G : mg_G} {Q : mg_Q} (hl : c.lookup pc = some (len, 1, a, b, e1, e2, i, hs)) (h : mg_brp w pc len i L S G Q) : mg_wp K c d pc L S G Q := by
  have key : ∀ {t : Nat} {r : List Value}, mm_br pc len i S = some (t, r) → w t L r G Q → mg_wp K c d pc L S G Q := fun {t r} h1 h2 => mg_st0 hl (fun call ρ => by simp only [mm_step, h1]) (hw _ _ _ _ _ h2)
  unfold mg_brp at h
  split at h
  · split at h
    · rename_i t e
      exact key (by simp only [mm_br, e]) h
    · exact h.elim
  · split at h
    · rename_i t e
      split at h
      · rename_i x r
        have h := mg_cc_ok h
        rcases @Decidable.em _ (mm_c0d _ x 0) with hc | hc
        · exact key (by simp only [mm_br, e]; rw [@if_pos _ (mm_c0d _ x 0) hc]) (h.1 hc)
        · exact key (by simp only [mm_br, e]; rw [@if_neg _ (mm_c0d _ x 0) hc]) (h.2 hc)
      · exact h.elim
    · exact h.elim
  · split at h
    · rename_i t e
      split at h
      · rename_i y x r
        have h := mg_cc_ok h
        rcases @Decidable.em _ (mm_c0d _ x y) with hc | hc
        · exact key (by simp only [mm_br, e]; rw [@if_pos _ (mm_c0d _ x y) hc]) (h.1 hc)
        · exact key (by simp only [mm_br, e]; rw [@if_neg _ (mm_c0d _ x y) hc]) (h.2 hc)
      · exact h.elim
    · exact h.elim
  · split at h
    · rename_i t e
      split at h
      · exact key (by simp only [mm_br, e]) h
      · exact key (by simp only [mm_br, e]) h
      · exact h.elim
    · exact h.elim
  · split at h
    · rename_i t e
      split at h
      · exact key (by simp only [mm_br, e]) h
      · exact key (by simp only [mm_br, e]) h
      · exact h.elim
    · exact h.elim
  · rename_i df lo hi offs
    split at h
    · rename_i x r
      obtain ⟨h1, h2, h3⟩ := h
      by_cases hc : x.toInt < lo ∨ hi < x.toInt
      · have h4 := h2 hc
        split at h4
        · rename_i t e
          exact key (by simp only [mm_br, if_pos hc, e]) h4
        · exact h4.elim
      · have hlt : (x.toInt - lo).toNat < offs.toList.length := by omega
        obtain ⟨off, ho⟩ : ∃ off, offs.toList[(x.toInt - lo).toNat]? = some off := ⟨_, List.getElem?_eq_getElem hlt⟩
        have ho2 : offs[(x.toInt - lo).toNat]? = some off := by rw [← Array.getElem?_toList]; exact ho
        obtain ⟨t, e, h4⟩ := mg_sw_ok h3 ho (by omega)
        exact key (by simp only [mm_br, if_neg hc, ho2, e]) h4
    · exact h.elim
  · exact h.elim
theorem mg_ix_if {j : Int32} {k n : Nat} (h : mg_ix j k) (hk : k < n) : ¬ (j < 0 ∨ n ≤ k) := by
  rintro (h1 | h1)
  · exact h.1 h1
  · omega
theorem mg_ardp_ok (hw : ∀ pc L S G Q, w pc L S G Q → mg_wp K c d pc L S G Q) {pc len a b e1 e2 : Nat} {i : Instr} {hs : List (String × Nat × Nat × Nat)} {L : mm_L} {S : List Value} {G : mg_G} {Q : mg_Q} (hl : c.lookup pc = some (len, 3, a, b, e1, e2, i, hs)) (h : mg_ardp K w (pc + len) i L S G Q) : mg_wp K c d pc L S G Q := by
  have key : ∀ {r : List Value}, (∀ ρ, mm_ard (mg_P K).1 i (mg_h K G ρ) S = some r) → w (pc + len) L r G Q → mg_wp K c d pc L S G Q := fun {r} h1 h2 => mg_st0 hl (fun call ρ => by simp only [mm_step, h1]) (hw _ _ _ _ _ h2)
  unfold mg_ardp at h
  split at h
  · split at h
    · obtain ⟨n, f, k, h1, h2, h3, h4⟩ := h
      refine key (fun ρ => ?_) h4
      simp only [mm_ard, mg_A_ok h1, h2.2, if_neg (mg_ix_if h2 h3)]
    · exact h.elim
  · split at h
    · obtain ⟨n, f, k, h1, h2, h3, h4⟩ := h
      refine key (fun ρ => ?_) h4
      simp only [mm_ard, mg_A_ok h1, h2.2, if_neg (mg_ix_if h2 h3)]
    · exact h.elim
  · split at h
    · obtain ⟨t, n, f, k, h1, h0, h2, h3, h4⟩ := h
      refine key (fun ρ => ?_) h4
      rcases h0 with rfl | rfl
      · simp only [mm_ard, mg_A_ok h1, h2.2, if_neg (mg_ix_if h2 h3)]
      · simp only [mm_ard, mg_A_ok h1, h2.2, if_neg (mg_ix_if h2 h3)]
    · exact h.elim
  · split at h
    · obtain ⟨n, f, k, v, h1, h2, h3, h5, h4⟩ := h
      refine key (fun ρ => ?_) h4
      simp only [mm_ard, mg_A_ok h1, h2.2, if_neg (mg_ix_if h2 h3), h5, va_rf]
    · exact h.elim
  · split at h
    · obtain ⟨t, n, f, h1, h2, h4⟩ := h
      refine key (fun ρ => ?_) h4
      simp only [mm_ard, mg_A_ok h1, if_pos h2]
    · exact h.elim
  · exact h.elim
theorem mg_at1 {G : mg_G} {ρ : Bool × Nat × Nat} {a t n : Nat} (h : K.2[a]? = some (.inl (t, n))) : (mg_h K G ρ).1[a]? = some (.inl (t, n, mg_t G a t)) := by
  show (mg_k G 0 K.2)[a]? = _
  rw [mg_k_at, h, Nat.zero_add]
  rfl
theorem mg_awrp_ok (hw : ∀ pc L S G Q, w pc L S G Q → mg_wp K c d pc L S G Q) {pc len a b e1 e2 : Nat} {i : Instr} {hs : List (String × Nat × Nat × Nat)} {L : mm_L} {S : List Value} {G : mg_G} {Q : mg_Q} (hl : c.lookup pc = some (len, 13, a, b, e1, e2, i, hs)) (h : mg_awrp K w (pc + len) i L S G Q) : mg_wp K c d pc L S G Q := by
  have key : ∀ {G' : mg_G} {r : List Value}, (∀ ρ, mm_awr i (mg_h K G ρ) S = some (mg_h K G' ρ, r)) → w (pc + len) L r G' Q → mg_wp K c d pc L S G Q := fun {G' r} h1 h2 => mg_st0 hl (fun call ρ => by simp only [mm_step, h1]) (hw _ _ _ _ _ h2)
  unfold mg_awrp at h
  split at h
  · split at h
    · obtain ⟨n, k, h1, h2, h3, h4⟩ := h
      refine key (fun ρ => ?_) h4
      simp only [mm_awr, mg_at1 h1, mg_t, h2.2, if_neg (mg_ix_if h2 h3), mm_set]
      exact congrArg (fun l => some ((l, ρ), _)) (mg_set_i _ h1 (Or.inl rfl))
    · exact h.elim
  · split at h
    · obtain ⟨n, k, h1, h2, h3, h4⟩ := h
      refine key (fun ρ => ?_) h4
      simp only [mm_awr, mg_at1 h1, mg_t, h2.2, if_neg (mg_ix_if h2 h3), mm_set]
      exact congrArg (fun l => some ((l, ρ), _)) (mg_set_l _ h1)
    · exact h.elim
  · split at h
    · obtain ⟨t, n, k, h1, h2, h3, h0, h4⟩ := h
      refine key (fun ρ => ?_) h4
      rcases h0 with rfl | rfl
      · simp only [mm_awr, mg_at1 h1, mg_t, h2.2, if_neg (mg_ix_if h2 h3), mm_set]
        exact congrArg (fun l => some ((l, ρ), _)) (mg_set_i _ h1 (Or.inr (Or.inl rfl)))
      · simp only [mm_awr, mg_at1 h1, mg_t, h2.2, if_neg (mg_ix_if h2 h3), mm_set]
        exact congrArg (fun l => some ((l, ρ), _)) (mg_set_i _ h1 (Or.inr (Or.inr rfl)))
    · exact h.elim
  · exact h.elim
theorem mg_cpp_ok (hw : ∀ pc L S G Q, w pc L S G Q → mg_wp K c d pc L S G Q) {pc len a b e1 e2 : Nat} {i : Instr} {hs : List (String × Nat × Nat × Nat)} {L : mm_L} {S : List Value} {G : mg_G} {Q : mg_Q} (hl : c.lookup pc = some (len, 17, a, b, e1, e2, i, hs)) (h : mg_cpp K w (pc + len) L S G Q) : mg_wp K c d pc L S G Q := by
  unfold mg_cpp at h
  split at h
  · rename_i n dp b9 sp a9 r
    obtain ⟨h0, n', dp', sp', n0, n1, h1, h2, h3, h4, h5, h6⟩ := h
    have hneg : ¬ (sp < 0 ∨ dp < 0 ∨ n < 0) := by
      rintro (q | q | q)
      · exact h3.1 q
      · exact h2.1 q
      · exact h1.1 q
    rcases h6 with ⟨g1, g2, g3⟩ | ⟨g1, g2, g3⟩
    · refine mg_st0 hl (fun call ρ => ?_) (hw _ _ _ _ _ g3)
      have e : mm_copy (mg_P K) (mg_h K G ρ) (.int n :: .int dp :: .ref b9 :: .int sp :: .ref a9 :: r) = some (mg_h K (mg_u G.1 b9 (va_cpy (G.1 a9) (G.1 b9) sp' dp' n'), G.2) ρ, r) := by
        simp only [mm_copy, if_neg hneg, mg_at1 g1, mg_at1 g2, mg_t, h1.2, h2.2, h3.2, if_pos (And.intro h4 h5), mm_set]
        exact congrArg (fun l => some ((l, ρ), _)) (mg_set_i _ g2 (Or.inl rfl))
      simp only [mm_step, e, if_pos h0]
    · refine mg_st0 hl (fun call ρ => ?_) (hw _ _ _ _ _ g3)
      have e : mm_copy (mg_P K) (mg_h K G ρ) (.int n :: .int dp :: .ref b9 :: .int sp :: .ref a9 :: r) = some (mg_h K (G.1, mg_u G.2.1 b9 (va_cpy (G.2.1 a9) (G.2.1 b9) sp' dp' n'), G.2.2) ρ, r) := by
        simp only [mm_copy, if_neg hneg, mg_at1 g1, mg_at1 g2, mg_t, h1.2, h2.2, h3.2, if_pos (And.intro h4 h5), mm_set]
        exact congrArg (fun l => some ((l, ρ), _)) (mg_set_l _ g2)
      simp only [mm_step, e, if_pos h0]
  · exact h.elim
theorem mg_bk_mono (hw : ∀ pc L S G Q, w pc L S G Q → mg_wp K c d pc L S G Q) {hs : List (String × Nat × Nat × Nat)} {pc : Nat} {L : mm_L} {rest : List Value} {Q : mg_Q} {o : Option Value ⊕ String} {k : Nat} {G' : mg_G} (h : mg_bk K hs pc L rest w Q o k G') : mg_bk K hs pc L rest (mg_wp K c d) Q o k G' := by
  cases o with
  | inl v => exact hw _ _ _ _ _ h
  | inr E =>
    cases hs with
    | nil => exact h
    | cons q hs =>
      have h3 : (match (q :: hs).lookup E with
        | some (h, len, i) => i < L.length ∧ w (h + len) ((mm_kl L i).set i none) [] G' (fun o2 k2 G2 => Q o2 (k2 + k) G2)
        | none => False) := h
      show (match (q :: hs).lookup E with
        | some (h, len, i) => i < L.length ∧ mg_wp K c d (h + len) ((mm_kl L i).set i none) [] G' (fun o2 k2 G2 => Q o2 (k2 + k) G2)
        | none => False)
      split at h3
      · rename_i e
        exact ⟨h3.1, hw _ _ _ _ _ h3.2⟩
      · exact h3.elim
theorem mg_putf_ok {G : mg_G} {ρ : Bool × Nat × Nat} {a b x : Nat} {v : Value} {r : List Value} {ty : FieldType} {T : List (Option Value)} (ety : mm_fty a b = some ty) (h1 : mm_fit ty v = true) (h2 : K.2[x]? = some (.inr (a, T))) (h3 : T[b]? = some none) : mm_putf (mg_P K) (mg_h K G ρ) a b (v :: .ref x :: r) = some (mg_h K (G.1, G.2.1, G.2.2.1, G.2.2.2.1, mg_u2 G.2.2.2.2 x b v) ρ, r) := by
  have hlen := (List.getElem?_eq_some_iff.mp h3).1
  unfold mm_putf
  have e1 : (mg_h K G ρ).1[x]? = some (.inr (a, mg_f (G.2.2.2.2 x) 0 T)) := by
    show (mg_k G 0 K.2)[x]? = _
    rw [mg_k_at, h2, Nat.zero_add]
    rfl
  simp only [e1, if_true, show (mg_P K).2.2.2.2.2 a b = some ty from ety, h1, mg_f_len, hlen, and_self, mm_set]
  exact congrArg (fun l => some ((l, ρ), _)) (mg_set_f h2 h3)
theorem mg_one_ok (hw : ∀ pc L S G Q, w pc L S G Q → mg_wp K c d pc L S G Q) {pc len : Nat} {op : mm_Op} {L : mm_L} {S : List Value} {G : mg_G} {Q : mg_Q} (hl : c.lookup pc = some (len, op)) (h : mg_one K d w op pc len L S G Q) : mg_wp K c d pc L S G Q := by
  unfold mg_one at h
  split at h
  · split at h
    · rename_i e
      exact mg_st0 hl (fun call ρ => by simp only [mm_step, e]) (hw _ _ _ _ _ h)
    · exact h.elim
  · exact mg_brp_ok hw hl h
  · split at h
    · rename_i e
      rw [mg_fo_eq] at h
      exact mg_st0 hl (fun call ρ => by simp only [mm_step, e]) (hw _ _ _ _ _ h)
    · exact h.elim
  · exact mg_ardp_ok hw hl h
  · split at h
    · split at h
      · exact mg_st1 (k := 0) hl (fun call ρ => by simp only [mm_step, mm_ret, if_pos h.1]; rfl) h.2
      · exact h.elim
    · split at h
      · rename_i e
        exact mg_st1 (k := 0) hl (fun call ρ => by simp only [mm_step, e]; rfl) h
      · exact h.elim
  · split at h
    · rename_i e
      exact mg_st0 hl (fun call ρ => by simp only [mm_step, show (mg_P K).2.2.1 _ = some _ from e]) (hw _ _ _ _ _ h)
    · exact h.elim
  · exact mg_st0 hl (fun call ρ => rfl) (hw _ _ _ _ _ h)
  · split at h
    · obtain ⟨v, h1, h2⟩ := h
      exact mg_st0 hl (fun call ρ => by simp only [mm_step, mg_F_ok h1]) (hw _ _ _ _ _ h2)
    · exact h.elim
  · split at h
    · rename_i v x r
      split at h
      · rename_i ty ety
        obtain ⟨h1, T, h2, h3, h4⟩ := h
        exact mg_st0 hl (fun call ρ => by simp only [mm_step, mg_putf_ok ety h1 h2 h3]) (hw _ _ _ _ _ h4)
      · exact h.elim
    · exact h.elim
  · split at h
    · rename_i e
      exact mg_st0 hl (fun call ρ => by simp only [mm_step, show (mg_P K).2.2.2.1 _ = some _ from e]) (hw _ _ _ _ _ h)
    · exact h.elim
  · split at h
    · split at h
      · rename_i e
        exact mg_st0 hl (fun call ρ => by simp only [mm_step, mm_getO, if_neg (mm_ofl_big e), show (mg_P K).2.1 _ _ = some _ from e]) (hw _ _ _ _ _ h)
      · obtain ⟨h0, v, h1, h2⟩ := h
        exact mg_st0 hl (fun call ρ => by simp only [mm_step, mm_getO, if_pos h0, mg_F_ok h1]) (hw _ _ _ _ _ h2)
    · exact h.elim
  · exact mg_awrp_ok hw hl h
  · split at h
    · rename_i e
      rw [mg_fo_eq] at h
      exact mg_stc hl e h.1 (mg_m_mono h.2 (Nat.le_refl d) (fun o k G' h3 => mg_bk_mono hw h3))
    · exact h.elim
  · split at h
    · exact mg_st1 (k := 1) hl (fun call ρ => by simp only [mm_step, if_pos h.1]; rfl) h.2
    · exact h.elim
  · exact mg_cpp_ok hw hl h
  · split at h
    · exact mg_st0 hl (fun call ρ => by simp only [mm_step, if_pos h.1]) (hw _ _ _ _ _ h.2)
    · exact h.elim
  · split at h
    · exact mg_st0 hl (fun call ρ => by simp only [mm_step, if_pos h.1]) (hw _ _ _ _ _ h.2)
    · exact h.elim
  · exact h.elim
end MG
/-! the walk over a method's rows -/
def mg_mem (x : Nat) : List Nat → Bool
  | [] => false
  | y :: r => (match Nat.beq x y with
    | true => true
    | false => mg_mem x r)
def mg_dw (pc : Nat) : mm_Code → mm_Code
  | [] => []
  | q :: r => (match Nat.beq q.1 pc with
    | true => q :: r
    | false => mg_dw pc r)
def mg_nx (c r : mm_Code) (pc : Nat) : mm_Code := match r with
  | [] => mg_dw pc c
  | q :: r' => (match Nat.beq q.1 pc with
    | true => q :: r'
    | false => mg_dw pc c)
def mg_sym (K : mg_K) (c : mm_Code) (d : Nat) (stop : List Nat) : Nat → mm_Code → mm_L → List Value → mg_G → mg_Q → Prop
  | _, [], _, _, _, _ => False
  | 0, (pc, _) :: _, L, S, G, Q => mg_wp K c d pc L S G Q
  | n + 1, (pc, len, op) :: r, L, S, G, Q => mg_one K d (fun pc' L' S' G' Q' => match mg_nx c r pc' with
    | [] => False
    | q :: r' => (match mg_mem q.1 stop with
      | true => mg_wp K c d q.1 L' S' G' Q'
      | false => mg_sym K c d stop n (q :: r') L' S' G' Q')) op pc len L S G Q
def mg_srt : Nat → mm_Code → Bool
  | _, [] => true
  | b, q :: r => Nat.ble b q.1 && mg_srt (q.1 + 1) r
theorem mg_srt_at : ∀ {pre : mm_Code} {r : mm_Code} {b pc len : Nat} {op : mm_Op}, mg_srt b (pre ++ (pc, len, op) :: r) = true → b ≤ pc ∧ (pre ++ (pc, len, op) :: r).lookup pc = some (len, op)
  | [], r, b, pc, len, op, h => by
    have h1 := (Bool.and_eq_true _ _).mp h
    exact ⟨Nat.le_of_ble_eq_true h1.1, List.lookup_cons_self⟩
  | q :: pre, r, b, pc, len, op, h => by
    have h1 := (Bool.and_eq_true _ _).mp (show (Nat.ble b q.1 && mg_srt (q.1 + 1) (pre ++ (pc, len, op) :: r)) = true from h)
    obtain ⟨g1, g2⟩ := mg_srt_at h1.2
    have h2 := Nat.le_of_ble_eq_true h1.1
    refine ⟨by omega, ?_⟩
    show (q :: (pre ++ (pc, len, op) :: r)).lookup pc = _
    obtain ⟨k, v⟩ := q
    rw [List.lookup_cons]
    have e : (pc == k) = false := by
      rw [beq_eq_false_iff_ne]
      have : k + 1 ≤ pc := g1
      omega
    simp only [e]
    exact g2
theorem mg_dw_sfx (pc : Nat) : ∀ c : mm_Code, ∃ pre, c = pre ++ mg_dw pc c
  | [] => ⟨[], rfl⟩
  | q :: r => by
    unfold mg_dw
    split
    · exact ⟨[], rfl⟩
    · obtain ⟨pre, h⟩ := mg_dw_sfx pc r
      exact ⟨q :: pre, congrArg (q :: ·) h⟩
theorem mg_dw_hd (pc : Nat) : ∀ (c : mm_Code) {q : Nat × Nat × mm_Op} {r : mm_Code}, mg_dw pc c = q :: r → q.1 = pc
  | [], q, r, h => by cases h
  | q9 :: r9, q, r, h => by
    unfold mg_dw at h
    split at h
    · rename_i e
      cases h
      exact Nat.eq_of_beq_eq_true e
    · exact mg_dw_hd pc r9 h
theorem mg_nx_ok {c r : mm_Code} {pc : Nat} (hr : ∃ pre, c = pre ++ r) : (∃ pre, c = pre ++ mg_nx c r pc) ∧ ∀ q r', mg_nx c r pc = q :: r' → q.1 = pc := by
  unfold mg_nx
  split
  · exact ⟨mg_dw_sfx pc c, fun q r' h => mg_dw_hd pc c h⟩
  · split
    · rename_i e
      exact ⟨hr, fun q r' h => by cases h; exact Nat.eq_of_beq_eq_true e⟩
    · exact ⟨mg_dw_sfx pc c, fun q r' h => mg_dw_hd pc c h⟩
theorem mg_sym_ok {K : mg_K} {c : mm_Code} {d : Nat} {stop : List Nat} (hc : mg_srt 0 c = true) : ∀ {n : Nat} {pc len : Nat} {op : mm_Op} {r : mm_Code} {L : mm_L} {S : List Value} {G : mg_G} {Q : mg_Q}, (∃ pre, c = pre ++ (pc, len, op) :: r) → mg_sym K c d stop n ((pc, len, op) :: r) L S G Q → mg_wp K c d pc L S G Q
  | 0, pc, len, op, r, L, S, G, Q, _, h => h
  | n + 1, pc, len, op, r, L, S, G, Q, hr, h => by
    have hl : c.lookup pc = some (len, op) := by
      obtain ⟨pre, e⟩ := hr
      rw [e] at hc ⊢
      exact (mg_srt_at hc).2
    refine mg_one_ok (fun pc' L' S' G' Q' hw => ?_) hl h
    have hr2 : ∃ pre, c = pre ++ r := by
      obtain ⟨pre, e⟩ := hr
      exact ⟨pre ++ [(pc, len, op)], by rw [e, List.append_assoc]; rfl⟩
    obtain ⟨g1, g2⟩ := mg_nx_ok (pc := pc') hr2
    split at hw
    · exact hw.elim
    · rename_i q r' e
      rw [← g2 q r' e]
      split at hw
      · exact hw
      · exact mg_sym_ok hc (e ▸ g1) hw
theorem mg_go {K : mg_K} {c : mm_Code} {d : Nat} (stop : List Nat) (n pc : Nat) (hc : mg_srt 0 c = true) {L : mm_L} {S : List Value} {G : mg_G} {Q : mg_Q} (h : mg_sym K c d stop n (mg_dw pc c) L S G Q) : mg_wp K c d pc L S G Q := by
  cases e : mg_dw pc c with
  | nil =>
    rw [e] at h
    unfold mg_sym at h
    exact h.elim
  | cons q r =>
    rw [e] at h
    obtain ⟨pc9, len, op⟩ := q
    have := mg_dw_hd pc c e
    cases (show pc9 = pc from this)
    exact mg_sym_ok hc (e ▸ mg_dw_sfx pc c) h
theorem mg_me {K : mg_K} {c : mm_Code} {d y nL : Nat} (stop : List Nat) (n : Nat) (hy : mg_M y = some (c, nL)) (hc : mg_srt 0 c = true) {A : List Value} {G : mg_G} {Q : mg_Q} (hA : (mm_args A).length ≤ nL) (h : mg_fo (mm_entry A nL) (fun L => mg_sym K c d stop n (mg_dw 0 c) L [] G Q)) : mg_m K (d + 1) y A G Q := by
  rw [mg_fo_eq] at h
  exact mg_in hy hA (mg_go stop n 0 hc h)
