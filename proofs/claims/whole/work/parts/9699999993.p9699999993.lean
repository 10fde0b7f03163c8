/-! THE LAW: its cases. A walk over a piece of the code, that stops before it looks for the next row -/
def mg_syz (K : mg_K) (c c' : mm_Code) (d : Nat) (stop : List Nat) : Nat → mm_Code → mm_L → List Value → mg_G → mg_Q → Prop
  | _, [], _, _, _, _ => False
  | 0, (pc, _) :: _, L, S, G, Q => mg_wp K c d pc L S G Q
  | n + 1, (pc, len, op) :: r, L, S, G, Q => mg_one K d (fun pc' L' S' G' Q' => match mg_mem pc' stop with
    | true => mg_wp K c d pc' L' S' G' Q'
    | false => (match mg_nx c' r pc' with
      | [] => False
      | q :: r' => mg_syz K c c' d stop n (q :: r') L' S' G' Q')) op pc len L S G Q
theorem mg_syz_ok {K : mg_K} {c c' : mm_Code} {d : Nat} {stop : List Nat} (hc : mg_srt 0 c = true) (hs : ∃ p, c = p ++ c') : ∀ {n : Nat} {pc len : Nat} {op : mm_Op} {r : mm_Code} {L : mm_L} {S : List Value} {G : mg_G} {Q : mg_Q}, (∃ pre, c' = pre ++ (pc, len, op) :: r) → mg_syz K c c' d stop n ((pc, len, op) :: r) L S G Q → mg_wp K c d pc L S G Q
  | 0, pc, len, op, r, L, S, G, Q, _, h => h
  | n + 1, pc, len, op, r, L, S, G, Q, hr, h => by
    have hl : c.lookup pc = some (len, op) := by
      obtain ⟨pre, e⟩ := hr
      obtain ⟨p, e2⟩ := hs
      rw [e, ← List.append_assoc] at e2
      rw [e2] at hc ⊢
      exact (mg_srt_at hc).2
    refine mg_one_ok (fun pc' L' S' G' Q' hw => ?_) hl h
    have hr2 : ∃ pre, c' = pre ++ r := by
      obtain ⟨pre, e⟩ := hr
      exact ⟨pre ++ [(pc, len, op)], by rw [e, List.append_assoc]; rfl⟩
    split at hw
    · exact hw
    · obtain ⟨g1, g2⟩ := mg_nx_ok (pc := pc') hr2
      split at hw
      · exact hw.elim
      · rename_i q r' e
        rw [← g2 q r' e]
        exact mg_syz_ok hc hs (e ▸ g1) hw
theorem mg_goz {K : mg_K} {c c' : mm_Code} {d : Nat} (stop : List Nat) (n pc : Nat) (hc : mg_srt 0 c = true) (hs : ∃ p, c = p ++ c') {L : mm_L} {S : List Value} {G : mg_G} {Q : mg_Q} (h : mg_syz K c c' d stop n (mg_dw pc c') L S G Q) : mg_wp K c d pc L S G Q := by
  cases e : mg_dw pc c' with
  | nil =>
    rw [e] at h
    unfold mg_syz at h
    exact h.elim
  | cons q r =>
    rw [e] at h
    obtain ⟨pc9, len, op⟩ := q
    have := mg_dw_hd pc c' e
    cases (show pc9 = pc from this)
    exact mg_syz_ok hc hs (e ▸ mg_dw_sfx pc c') h
/-! the law's code from its chunks on -/
def mlt_41 : mm_Code := mc_law_41
def mlt_40 : mm_Code := mc_law_40 ++ mlt_41
def mlt_39 : mm_Code := mc_law_39 ++ mlt_40
def mlt_38 : mm_Code := mc_law_38 ++ mlt_39
def mlt_37 : mm_Code := mc_law_37 ++ mlt_38
def mlt_36 : mm_Code := mc_law_36 ++ mlt_37
def mlt_35 : mm_Code := mc_law_35 ++ mlt_36
def mlt_34 : mm_Code := mc_law_34 ++ mlt_35
def mlt_33 : mm_Code := mc_law_33 ++ mlt_34
def mlt_32 : mm_Code := mc_law_32 ++ mlt_33
def mlt_31 : mm_Code := mc_law_31 ++ mlt_32
def mlt_30 : mm_Code := mc_law_30 ++ mlt_31
def mlt_29 : mm_Code := mc_law_29 ++ mlt_30
def mlt_28 : mm_Code := mc_law_28 ++ mlt_29
def mlt_27 : mm_Code := mc_law_27 ++ mlt_28
def mlt_26 : mm_Code := mc_law_26 ++ mlt_27
def mlt_25 : mm_Code := mc_law_25 ++ mlt_26
def mlt_24 : mm_Code := mc_law_24 ++ mlt_25
def mlt_23 : mm_Code := mc_law_23 ++ mlt_24
def mlt_22 : mm_Code := mc_law_22 ++ mlt_23
def mlt_21 : mm_Code := mc_law_21 ++ mlt_22
def mlt_20 : mm_Code := mc_law_20 ++ mlt_21
def mlt_19 : mm_Code := mc_law_19 ++ mlt_20
def mlt_18 : mm_Code := mc_law_18 ++ mlt_19
def mlt_17 : mm_Code := mc_law_17 ++ mlt_18
def mlt_16 : mm_Code := mc_law_16 ++ mlt_17
def mlt_15 : mm_Code := mc_law_15 ++ mlt_16
def mlt_14 : mm_Code := mc_law_14 ++ mlt_15
def mlt_13 : mm_Code := mc_law_13 ++ mlt_14
def mlt_12 : mm_Code := mc_law_12 ++ mlt_13
def mlt_11 : mm_Code := mc_law_11 ++ mlt_12
def mlt_10 : mm_Code := mc_law_10 ++ mlt_11
def mlt_9 : mm_Code := mc_law_9 ++ mlt_10
def mlt_8 : mm_Code := mc_law_8 ++ mlt_9
def mlt_7 : mm_Code := mc_law_7 ++ mlt_8
def mlt_6 : mm_Code := mc_law_6 ++ mlt_7
def mlt_5 : mm_Code := mc_law_5 ++ mlt_6
def mlt_4 : mm_Code := mc_law_4 ++ mlt_5
def mlt_3 : mm_Code := mc_law_3 ++ mlt_4
def mlt_2 : mm_Code := mc_law_2 ++ mlt_3
def mlt_1 : mm_Code := mc_law_1 ++ mlt_2
def mlt_0 : mm_Code := mc_law_0 ++ mlt_1
theorem mlz_0 : ∃ p, mc_law = p ++ mlt_0 := ⟨[], rfl⟩
theorem mlz_1 : ∃ p, mc_law = p ++ mlt_1 := by obtain ⟨p, e⟩ := mlz_0; exact ⟨p ++ mc_law_0, by rw [e, List.append_assoc]; rfl⟩
theorem mlz_2 : ∃ p, mc_law = p ++ mlt_2 := by obtain ⟨p, e⟩ := mlz_1; exact ⟨p ++ mc_law_1, by rw [e, List.append_assoc]; rfl⟩
theorem mlz_3 : ∃ p, mc_law = p ++ mlt_3 := by obtain ⟨p, e⟩ := mlz_2; exact ⟨p ++ mc_law_2, by rw [e, List.append_assoc]; rfl⟩
theorem mlz_4 : ∃ p, mc_law = p ++ mlt_4 := by obtain ⟨p, e⟩ := mlz_3; exact ⟨p ++ mc_law_3, by rw [e, List.append_assoc]; rfl⟩
theorem mlz_5 : ∃ p, mc_law = p ++ mlt_5 := by obtain ⟨p, e⟩ := mlz_4; exact ⟨p ++ mc_law_4, by rw [e, List.append_assoc]; rfl⟩
theorem mlz_6 : ∃ p, mc_law = p ++ mlt_6 := by obtain ⟨p, e⟩ := mlz_5; exact ⟨p ++ mc_law_5, by rw [e, List.append_assoc]; rfl⟩
theorem mlz_7 : ∃ p, mc_law = p ++ mlt_7 := by obtain ⟨p, e⟩ := mlz_6; exact ⟨p ++ mc_law_6, by rw [e, List.append_assoc]; rfl⟩
theorem mlz_8 : ∃ p, mc_law = p ++ mlt_8 := by obtain ⟨p, e⟩ := mlz_7; exact ⟨p ++ mc_law_7, by rw [e, List.append_assoc]; rfl⟩
theorem mlz_9 : ∃ p, mc_law = p ++ mlt_9 := by obtain ⟨p, e⟩ := mlz_8; exact ⟨p ++ mc_law_8, by rw [e, List.append_assoc]; rfl⟩
theorem mlz_10 : ∃ p, mc_law = p ++ mlt_10 := by obtain ⟨p, e⟩ := mlz_9; exact ⟨p ++ mc_law_9, by rw [e, List.append_assoc]; rfl⟩
theorem mlz_11 : ∃ p, mc_law = p ++ mlt_11 := by obtain ⟨p, e⟩ := mlz_10; exact ⟨p ++ mc_law_10, by rw [e, List.append_assoc]; rfl⟩
theorem mlz_12 : ∃ p, mc_law = p ++ mlt_12 := by obtain ⟨p, e⟩ := mlz_11; exact ⟨p ++ mc_law_11, by rw [e, List.append_assoc]; rfl⟩
theorem mlz_13 : ∃ p, mc_law = p ++ mlt_13 := by obtain ⟨p, e⟩ := mlz_12; exact ⟨p ++ mc_law_12, by rw [e, List.append_assoc]; rfl⟩
theorem mlz_14 : ∃ p, mc_law = p ++ mlt_14 := by obtain ⟨p, e⟩ := mlz_13; exact ⟨p ++ mc_law_13, by rw [e, List.append_assoc]; rfl⟩
theorem mlz_15 : ∃ p, mc_law = p ++ mlt_15 := by obtain ⟨p, e⟩ := mlz_14; exact ⟨p ++ mc_law_14, by rw [e, List.append_assoc]; rfl⟩
theorem mlz_16 : ∃ p, mc_law = p ++ mlt_16 := by obtain ⟨p, e⟩ := mlz_15; exact ⟨p ++ mc_law_15, by rw [e, List.append_assoc]; rfl⟩
theorem mlz_17 : ∃ p, mc_law = p ++ mlt_17 := by obtain ⟨p, e⟩ := mlz_16; exact ⟨p ++ mc_law_16, by rw [e, List.append_assoc]; rfl⟩
theorem mlz_18 : ∃ p, mc_law = p ++ mlt_18 := by obtain ⟨p, e⟩ := mlz_17; exact ⟨p ++ mc_law_17, by rw [e, List.append_assoc]; rfl⟩
theorem mlz_19 : ∃ p, mc_law = p ++ mlt_19 := by obtain ⟨p, e⟩ := mlz_18; exact ⟨p ++ mc_law_18, by rw [e, List.append_assoc]; rfl⟩
theorem mlz_20 : ∃ p, mc_law = p ++ mlt_20 := by obtain ⟨p, e⟩ := mlz_19; exact ⟨p ++ mc_law_19, by rw [e, List.append_assoc]; rfl⟩
theorem mlz_21 : ∃ p, mc_law = p ++ mlt_21 := by obtain ⟨p, e⟩ := mlz_20; exact ⟨p ++ mc_law_20, by rw [e, List.append_assoc]; rfl⟩
theorem mlz_22 : ∃ p, mc_law = p ++ mlt_22 := by obtain ⟨p, e⟩ := mlz_21; exact ⟨p ++ mc_law_21, by rw [e, List.append_assoc]; rfl⟩
theorem mlz_23 : ∃ p, mc_law = p ++ mlt_23 := by obtain ⟨p, e⟩ := mlz_22; exact ⟨p ++ mc_law_22, by rw [e, List.append_assoc]; rfl⟩
theorem mlz_24 : ∃ p, mc_law = p ++ mlt_24 := by obtain ⟨p, e⟩ := mlz_23; exact ⟨p ++ mc_law_23, by rw [e, List.append_assoc]; rfl⟩
theorem mlz_25 : ∃ p, mc_law = p ++ mlt_25 := by obtain ⟨p, e⟩ := mlz_24; exact ⟨p ++ mc_law_24, by rw [e, List.append_assoc]; rfl⟩
theorem mlz_26 : ∃ p, mc_law = p ++ mlt_26 := by obtain ⟨p, e⟩ := mlz_25; exact ⟨p ++ mc_law_25, by rw [e, List.append_assoc]; rfl⟩
theorem mlz_27 : ∃ p, mc_law = p ++ mlt_27 := by obtain ⟨p, e⟩ := mlz_26; exact ⟨p ++ mc_law_26, by rw [e, List.append_assoc]; rfl⟩
theorem mlz_28 : ∃ p, mc_law = p ++ mlt_28 := by obtain ⟨p, e⟩ := mlz_27; exact ⟨p ++ mc_law_27, by rw [e, List.append_assoc]; rfl⟩
theorem mlz_29 : ∃ p, mc_law = p ++ mlt_29 := by obtain ⟨p, e⟩ := mlz_28; exact ⟨p ++ mc_law_28, by rw [e, List.append_assoc]; rfl⟩
theorem mlz_30 : ∃ p, mc_law = p ++ mlt_30 := by obtain ⟨p, e⟩ := mlz_29; exact ⟨p ++ mc_law_29, by rw [e, List.append_assoc]; rfl⟩
theorem mlz_31 : ∃ p, mc_law = p ++ mlt_31 := by obtain ⟨p, e⟩ := mlz_30; exact ⟨p ++ mc_law_30, by rw [e, List.append_assoc]; rfl⟩
theorem mlz_32 : ∃ p, mc_law = p ++ mlt_32 := by obtain ⟨p, e⟩ := mlz_31; exact ⟨p ++ mc_law_31, by rw [e, List.append_assoc]; rfl⟩
theorem mlz_33 : ∃ p, mc_law = p ++ mlt_33 := by obtain ⟨p, e⟩ := mlz_32; exact ⟨p ++ mc_law_32, by rw [e, List.append_assoc]; rfl⟩
theorem mlz_34 : ∃ p, mc_law = p ++ mlt_34 := by obtain ⟨p, e⟩ := mlz_33; exact ⟨p ++ mc_law_33, by rw [e, List.append_assoc]; rfl⟩
theorem mlz_35 : ∃ p, mc_law = p ++ mlt_35 := by obtain ⟨p, e⟩ := mlz_34; exact ⟨p ++ mc_law_34, by rw [e, List.append_assoc]; rfl⟩
theorem mlz_36 : ∃ p, mc_law = p ++ mlt_36 := by obtain ⟨p, e⟩ := mlz_35; exact ⟨p ++ mc_law_35, by rw [e, List.append_assoc]; rfl⟩
theorem mlz_37 : ∃ p, mc_law = p ++ mlt_37 := by obtain ⟨p, e⟩ := mlz_36; exact ⟨p ++ mc_law_36, by rw [e, List.append_assoc]; rfl⟩
theorem mlz_38 : ∃ p, mc_law = p ++ mlt_38 := by obtain ⟨p, e⟩ := mlz_37; exact ⟨p ++ mc_law_37, by rw [e, List.append_assoc]; rfl⟩
theorem mlz_39 : ∃ p, mc_law = p ++ mlt_39 := by obtain ⟨p, e⟩ := mlz_38; exact ⟨p ++ mc_law_38, by rw [e, List.append_assoc]; rfl⟩
theorem mlz_40 : ∃ p, mc_law = p ++ mlt_40 := by obtain ⟨p, e⟩ := mlz_39; exact ⟨p ++ mc_law_39, by rw [e, List.append_assoc]; rfl⟩
theorem mlz_41 : ∃ p, mc_law = p ++ mlt_41 := by obtain ⟨p, e⟩ := mlz_40; exact ⟨p ++ mc_law_40, by rw [e, List.append_assoc]; rfl⟩
def lwQ (n : Nat) : mg_Q := fun o k _ => o = .inl (some (.int 1)) ∧ k ≤ 2 * n
/-- what holds after a case -/
def lwN (L : Nat) (xs : Nat → Int32) (d i n : Nat) : Prop := ∀ (G' : mg_G) (S' : a_S) (e6 e7 e8 : Option Value), cT G' S' → rT G' S' → mg_wp (mg_KM (L, xs) shO) mc_law d 3435 [some (.ref 1000002), some (.ref 0), some (.ref 148), some (.ref 169), some (.ref 170), some (.int (Int32.ofNat i)), e6, e7, e8] [] G' (lwQ n)
theorem lwN.go {L : Nat} {xs : Nat → Int32} {d i n k : Nat} (h : lwN L xs d i n) {G' : mg_G} {S' : a_S} {e6 e7 e8 : Option Value} (hc : cT G' S') (hr : rT G' S') (hk : k ≤ 2) {Q : mg_Q} (hQ : ∀ o j G2, lwQ (n + 1) o (j + k) G2 → Q o j G2) : mg_wp (mg_KM (L, xs) shO) mc_law d 3435 [some (.ref 1000002), some (.ref 0), some (.ref 148), some (.ref 169), some (.ref 170), some (.int (Int32.ofNat i)), e6, e7, e8] [] G' Q :=
  mg_wp_mono (h G' S' e6 e7 e8 hc hr) (fun o j G2 w => hQ o j G2 ⟨w.1, by have := w.2; omega⟩)
theorem rT.fo {G G' : mg_G} {S : a_S} (h : rT G S) (f : cFo G G') : rT G' S := h.fc (f.mono (fun b hb => by omega))
theorem r174 {scr : Nat × (Nat → Int32)} {t : List mg_S} {G : mg_G} (d : Nat) {x : Int32} (h : G.2.2.2.2 148 10 = .int x) : mg_m (mg_KM scr t) (d + 1) 174 [.ref 148] G (mg_v (.int x) G) := by
  refine mg_me [] 10 my_174 ms_174 (Nat.le_of_ble_eq_true rfl) ?_
  repeat (first | refine ⟨_, mg_Fs rfl rfl, ?_⟩ | refine ⟨Or.inl rfl, ?_⟩ | refine ⟨Or.inr ⟨_, rfl⟩, ?_⟩ | refine ⟨fun _ => ?_, fun h => absurd h (by decide)⟩ | refine ⟨fun h => absurd h (by decide), fun _ => ?_⟩)
  refine ⟨_, mg_Fe h rfl rfl, ?_⟩
  repeat (first | refine ⟨_, mg_Fs rfl rfl, ?_⟩ | refine ⟨Or.inl rfl, ?_⟩ | refine ⟨Or.inr ⟨_, rfl⟩, ?_⟩ | refine ⟨fun _ => ?_, fun h => absurd h (by decide)⟩ | refine ⟨fun h => absurd h (by decide), fun _ => ?_⟩)
  exact ⟨rfl, rfl, rfl⟩
def lwb (x : Int32) : Bool := !decide (x = 0)
theorem lwb_0 {x : Int32} (h : x = 0) : lwb x = false := by unfold lwb; rw [decide_eq_true h]; rfl
theorem lwb_1 {x : Int32} (h : ¬ x = 0) : lwb x = true := by unfold lwb; rw [decide_eq_false h]; rfl
