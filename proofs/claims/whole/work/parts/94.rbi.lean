/-! REFERENCE: function, node, find, append, truncate, the error -/
def a_ush (x y : Int32) : Int32 := (x.toUInt32 >>> (y.toUInt32 &&& Int32.toUInt32 31)).toInt32
/-- how many bits are 1, as the JDK counts them -/
def a_bc (x : Int32) : Int32 :=
  let a := x - (a_ush x (Int32.ofInt 1) &&& 1431655765)
  let b := (a &&& 858993459) + (a_ush a (Int32.ofInt 2) &&& 858993459)
  let c := (b + a_ush b (Int32.ofInt 4)) &&& 252645135
  let e := c + a_ush c (Int8.ofInt 8).toInt32
  let f := e + a_ush e (Int8.ofInt 16).toInt32
  f &&& (Int8.ofInt 63).toInt32
theorem r330 {K : mg_K} (d : Nat) (x : Int32) (G : mg_G) : mg_m K (d + 1) 330 [.int x] G (mg_v (.int (a_bc x)) G) := by
  refine mg_me [] 60 my_330 ms_330 (Nat.le_of_ble_eq_true rfl) ?_
  exact ⟨Or.inl rfl, rfl, rfl, rfl⟩
def q264 (A : a_A) (f w : Int32) : qR := qF A f fun f => match vi w 5 with
  | none => (2, 0)
  | some 0 => (0, Int32.ofNat (aR A f))
  | some 1 => (0, a_sum (fun i => b2 (g_rc (aG A) (aV A) (aR A f) (i + 2))) (gN (aG A) - 2))
  | some 2 => (0, a_sum (a_atI (aT A f)) (2 ^ aV A))
  | some 3 => (0, a_bc (a_sup A f))
  | some _ => (0, Int32.ofNat (aFN A f).length)
def q266 (S : a_S) : qR := match a_ff (fun f => decide (aFN (sA S) f ≠ [] ∧ aFN (sA S) f = sIn S)) (aF (sA S)) with
  | none => (1, 0)
  | some f => (0, Int32.ofNat f)
/-- the four bytes of an int -/
def a_by (x : Int32) : List Nat := [((x >>> (Int32.ofInt 24 &&& 31)) &&& 255).toNatClampNeg, ((x >>> (Int32.ofInt 16 &&& 31)) &&& 255).toNatClampNeg, ((x >>> (Int32.ofInt 8 &&& 31)) &&& 255).toNatClampNeg, ((x >>> (Int32.ofInt 0 &&& 31)) &&& 255).toNatClampNeg]
theorem a_255 (x : Int32) : x &&& 255 = Int32.ofNat ((x &&& 255).toNatClampNeg) ∧ (x &&& 255).toNatClampNeg < 256 := by
  have h : (x &&& 255).toBitVec.toNat = x.toBitVec.toNat % 256 := by
    show (x.toBitVec &&& 255#32).toNat = _
    rw [BitVec.toNat_and]
    exact Nat.and_two_pow_sub_one_eq_mod _ 8
  have h2 : (x &&& 255).toInt = ((x.toBitVec.toNat % 256 : Nat) : Int) := by
    show (x &&& 255).toBitVec.toInt = _
    rw [BitVec.toInt_eq_toNat_of_lt (by rw [h]; omega), h]
  have h3 : (x &&& 255).toNatClampNeg = x.toBitVec.toNat % 256 := by
    rw [Int32.toNatClampNeg, h2]
    exact Int.toNat_natCast _
  refine ⟨Int32.toInt_inj.mp ?_, by omega⟩
  rw [h2, h3, Int32.toInt_ofNat_of_lt (by omega)]
def sInS (S : a_S) (l : List Nat) : a_S := (sA S, sU S, sV S, l, S.2.2.2.2)
def p206 (S : a_S) (a b c d e : Int32) : a_S × qR := if (sIn S).length + 20 ≤ 600 then (sInS S (sIn S ++ a_by a ++ a_by b ++ a_by c ++ a_by d ++ a_by e), (0, Int32.ofNat ((sIn S).length + 20))) else (S, (1, 0))
def p207 (S : a_S) (n : Int32) : a_S × qR := match vi n ((sIn S).length + 1) with
  | none => (S, (1, 0))
  | some n => (sInS S ((sIn S).take n), (0, Int32.ofNat n))
theorem rT.inp {G G' : mg_G} {S : a_S} (h : rT G S) {l : List Nat} (h1 : ∀ b, b ≠ 152 → G'.1 b = G.1 b) (h2 : G'.2.1 = G.2.1) (h3 : ∀ k, k ≠ 5 → G'.2.2.2.2 148 k = G.2.2.2.2 148 k) (hl : rIn G' l) : rT G' (sInS S l) := by
  obtain ⟨g1, g2, g3, g4, g5, ⟨g6, g7⟩, g8⟩ := h
  have bb : ∀ {c : Nat} {B : a_A}, bS G c B → bS G' c B := fun {c B} q => ⟨q.1.c (h1 149 (by decide)) (by rw [h2]), q.2⟩
  exact ⟨fun v hv => by rw [h2]; exact g1 v hv, bb g2, ⟨(h3 3 (by decide)).trans g3.1, g3.2.1, fun i B hi => bb (g3.2.2 i B hi)⟩, fun s hs => ⟨by rw [h1 151 (by decide)]; exact (g4 s hs).1, fun B hB => bb ((g4 s hs).2 B hB)⟩, hl, ⟨(h3 6 (by decide)).trans g6, (h3 7 (by decide)).trans g7⟩, ⟨(h3 9 (by decide)).trans g8.1, g8.2.1, fun i c hi => by rw [h1 153 (by decide)]; exact g8.2.2 i c hi⟩⟩
theorem rIn_s {G G' : mg_G} {l : List Nat} {x : Int32} (h : rIn G l) (h6 : l.length < 600) (e : G'.1 152 = mg_u (G.1 152) l.length (x &&& 255)) (e2 : G'.2.2.2.2 148 5 = .int (Int32.ofNat (l.length + 1))) : rIn G' (l ++ [(x &&& 255).toNatClampNeg]) := by
  refine ⟨by rw [List.length_append]; exact e2, by rw [List.length_append]; exact h6, fun i c hi => ?_⟩
  rw [e]
  by_cases q : i = l.length
  · subst q
    rw [List.getElem?_append_right (Nat.le_refl _), Nat.sub_self] at hi
    have := Option.some.inj hi
    subst this
    rw [mg_u_eq]
    exact a_255 x
  · have hl := (List.getElem?_eq_some_iff.mp hi).1
    rw [List.length_append] at hl
    have hl : i < l.length + 1 := hl
    rw [List.getElem?_append_left (by omega)] at hi
    rw [mg_u_ne _ _ q]
    exact h.2.2 i c hi
section RM
variable {scr : Nat × (Nat → Int32)} {t : List mg_S} {G : mg_G} {A : a_A} {S : a_S}
theorem r264 (d : Nat) (hI : rI G A) (f w : Int32) : mg_m (mg_KM scr t) (d + aV A + 8) 264 [.ref 148, .int f, .int w] G (rQ G (q264 A f w)) := by
  have h8 := hI.v8
  have h12 := hI.f12
  have hI3 : rI (mg_sF G 148 10 (.int 0)) A := hI
  unfold q264
  cases hf : vi f (aF A) with
  | none =>
    rw [qF_x hf]
    refine mg_me [] 160 my_264 ms_264 (Nat.le_of_ble_eq_true rfl) ?_
    repeat (first | refine ⟨_, mg_Fs rfl rfl, ?_⟩ | refine ⟨_, mg_Fd rfl rfl, ?_⟩ | refine ⟨Or.inl rfl, ?_⟩ | refine ⟨Or.inr ⟨_, rfl⟩, ?_⟩ | refine ⟨fun _ => ?_, fun h => absurd h (by decide)⟩ | refine ⟨fun h => absurd h (by decide), fun _ => ?_⟩)
    refine mg_cv (r181x d hI hf) (by omega) ?_
    repeat (first | refine ⟨_, mg_Fs rfl rfl, ?_⟩ | refine ⟨_, mg_Fd rfl rfl, ?_⟩ | refine ⟨Or.inl rfl, ?_⟩ | refine ⟨Or.inr ⟨_, rfl⟩, ?_⟩ | refine ⟨fun _ => ?_, fun h => absurd h (by decide)⟩ | refine ⟨fun h => absurd h (by decide), fun _ => ?_⟩)
    refine mg_cv (r177 d w 0 _ G) (by omega) ?_
    refine ⟨fun _ => ?_, fun _ => ?_⟩
    · repeat (first | refine ⟨_, mg_Fs rfl rfl, ?_⟩ | refine ⟨_, mg_Fd rfl rfl, ?_⟩ | refine ⟨Or.inl rfl, ?_⟩ | refine ⟨Or.inr ⟨_, rfl⟩, ?_⟩ | refine ⟨fun _ => ?_, fun h => absurd h (by decide)⟩ | refine ⟨fun h => absurd h (by decide), fun _ => ?_⟩)
      refine mg_cv (r176_1 d _ _) (by omega) ?_
      repeat (first | refine ⟨_, mg_Fs rfl rfl, ?_⟩ | refine ⟨_, mg_Fd rfl rfl, ?_⟩ | refine ⟨Or.inl rfl, ?_⟩ | refine ⟨Or.inr ⟨_, rfl⟩, ?_⟩ | refine ⟨fun _ => ?_, fun h => absurd h (by decide)⟩ | refine ⟨fun h => absurd h (by decide), fun _ => ?_⟩)
      exact ⟨rfl, rfl, rX.rf _⟩
    · repeat (first | refine ⟨_, mg_Fs rfl rfl, ?_⟩ | refine ⟨_, mg_Fd rfl rfl, ?_⟩ | refine ⟨Or.inl rfl, ?_⟩ | refine ⟨Or.inr ⟨_, rfl⟩, ?_⟩ | refine ⟨fun _ => ?_, fun h => absurd h (by decide)⟩ | refine ⟨fun h => absurd h (by decide), fun _ => ?_⟩)
      refine mg_cv (r176_1 d _ _) (by omega) ?_
      repeat (first | refine ⟨_, mg_Fs rfl rfl, ?_⟩ | refine ⟨_, mg_Fd rfl rfl, ?_⟩ | refine ⟨Or.inl rfl, ?_⟩ | refine ⟨Or.inr ⟨_, rfl⟩, ?_⟩ | refine ⟨fun _ => ?_, fun h => absurd h (by decide)⟩ | refine ⟨fun h => absurd h (by decide), fun _ => ?_⟩)
      exact ⟨rfl, rfl, rX.rf _⟩
  | some i =>
    obtain ⟨rfl, hi⟩ := vi_s hf
    rw [qF_y hf]
    cases hw : vi w 5 with
    | none =>
      refine mg_me [] 160 my_264 ms_264 (Nat.le_of_ble_eq_true rfl) ?_
      repeat (first | refine ⟨_, mg_Fs rfl rfl, ?_⟩ | refine ⟨_, mg_Fd rfl rfl, ?_⟩ | refine ⟨Or.inl rfl, ?_⟩ | refine ⟨Or.inr ⟨_, rfl⟩, ?_⟩ | refine ⟨fun _ => ?_, fun h => absurd h (by decide)⟩ | refine ⟨fun h => absurd h (by decide), fun _ => ?_⟩)
      refine mg_cv (r181y d hI hf) (by omega) ?_
      repeat (first | refine ⟨_, mg_Fs rfl rfl, ?_⟩ | refine ⟨_, mg_Fd rfl rfl, ?_⟩ | refine ⟨Or.inl rfl, ?_⟩ | refine ⟨Or.inr ⟨_, rfl⟩, ?_⟩ | refine ⟨fun _ => ?_, fun h => absurd h (by decide)⟩ | refine ⟨fun h => absurd h (by decide), fun _ => ?_⟩)
      refine mg_cv (r177x d hw (by decide) (by decide)) (by omega) ?_
      repeat (first | refine ⟨_, mg_Fs rfl rfl, ?_⟩ | refine ⟨_, mg_Fd rfl rfl, ?_⟩ | refine ⟨Or.inl rfl, ?_⟩ | refine ⟨Or.inr ⟨_, rfl⟩, ?_⟩ | refine ⟨fun _ => ?_, fun h => absurd h (by decide)⟩ | refine ⟨fun h => absurd h (by decide), fun _ => ?_⟩)
      refine mg_cv (r176_2 d _) (by omega) ?_
      repeat (first | refine ⟨_, mg_Fs rfl rfl, ?_⟩ | refine ⟨_, mg_Fd rfl rfl, ?_⟩ | refine ⟨Or.inl rfl, ?_⟩ | refine ⟨Or.inr ⟨_, rfl⟩, ?_⟩ | refine ⟨fun _ => ?_, fun h => absurd h (by decide)⟩ | refine ⟨fun h => absurd h (by decide), fun _ => ?_⟩)
      exact ⟨rfl, rfl, rX.rf _⟩
    | some k =>
      obtain ⟨rfl, hk⟩ := vi_s hw
      rcases (show k = 0 ∨ k = 1 ∨ k = 2 ∨ k = 3 ∨ k = 4 by omega) with rfl | rfl | rfl | rfl | rfl
      · refine mg_me [] 160 my_264 ms_264 (Nat.le_of_ble_eq_true rfl) ?_
        repeat (first | refine ⟨_, mg_Fs rfl rfl, ?_⟩ | refine ⟨_, mg_Fd rfl rfl, ?_⟩ | refine ⟨Or.inl rfl, ?_⟩ | refine ⟨Or.inr ⟨_, rfl⟩, ?_⟩ | refine ⟨fun _ => ?_, fun h => absurd h (by decide)⟩ | refine ⟨fun h => absurd h (by decide), fun _ => ?_⟩)
        refine mg_cv (r181y d hI hf) (by omega) ?_
        repeat (first | refine ⟨_, mg_Fs rfl rfl, ?_⟩ | refine ⟨_, mg_Fd rfl rfl, ?_⟩ | refine ⟨Or.inl rfl, ?_⟩ | refine ⟨Or.inr ⟨_, rfl⟩, ?_⟩ | refine ⟨fun _ => ?_, fun h => absurd h (by decide)⟩ | refine ⟨fun h => absurd h (by decide), fun _ => ?_⟩)
        refine mg_cv (r177y d hw (by decide) (by decide)) (by omega) ?_
        repeat (first | refine ⟨_, mg_Fs rfl rfl, ?_⟩ | refine ⟨_, mg_Fd rfl rfl, ?_⟩ | refine ⟨Or.inl rfl, ?_⟩ | refine ⟨Or.inr ⟨_, rfl⟩, ?_⟩ | refine ⟨fun _ => ?_, fun h => absurd h (by decide)⟩ | refine ⟨fun h => absurd h (by decide), fun _ => ?_⟩)
        refine mg_cv (r176_0 d) (by omega) ?_
        repeat (first | refine ⟨_, mg_Fs rfl rfl, ?_⟩ | refine ⟨_, mg_Fd rfl rfl, ?_⟩ | refine ⟨Or.inl rfl, ?_⟩ | refine ⟨Or.inr ⟨_, rfl⟩, ?_⟩ | refine ⟨fun _ => ?_, fun h => absurd h (by decide)⟩ | refine ⟨fun h => absurd h (by decide), fun _ => ?_⟩)
        refine ⟨by decide, fun h => absurd h (by decide), fun _ => ?_, fun h => absurd h (by decide), fun h => absurd h (by decide), fun h => absurd h (by decide), trivial⟩
        repeat (first | refine ⟨_, mg_Fs rfl rfl, ?_⟩ | refine ⟨_, mg_Fd rfl rfl, ?_⟩ | refine ⟨Or.inl rfl, ?_⟩ | refine ⟨Or.inr ⟨_, rfl⟩, ?_⟩ | refine ⟨fun _ => ?_, fun h => absurd h (by decide)⟩ | refine ⟨fun h => absurd h (by decide), fun _ => ?_⟩)
        refine mg_m_mono (r201A d hI3) (by omega) ?_
        rintro o q G1 ⟨rfl, rfl, hX, hgr, hg, hr, -⟩
        repeat (first | refine ⟨_, mg_Fs rfl rfl, ?_⟩ | refine ⟨_, mg_Fd rfl rfl, ?_⟩ | refine ⟨Or.inl rfl, ?_⟩ | refine ⟨Or.inr ⟨_, rfl⟩, ?_⟩ | refine ⟨fun _ => ?_, fun h => absurd h (by decide)⟩ | refine ⟨fun h => absurd h (by decide), fun _ => ?_⟩)
        refine ⟨_, _, i, mg_Ai rfl (by decide), mg_ixN (by omega), by omega, Or.inl rfl, rfl, ?_, hX⟩
        rw [(hr i hi).1]
        rfl
      · refine mg_me [] 160 my_264 ms_264 (Nat.le_of_ble_eq_true rfl) ?_
        repeat (first | refine ⟨_, mg_Fs rfl rfl, ?_⟩ | refine ⟨_, mg_Fd rfl rfl, ?_⟩ | refine ⟨Or.inl rfl, ?_⟩ | refine ⟨Or.inr ⟨_, rfl⟩, ?_⟩ | refine ⟨fun _ => ?_, fun h => absurd h (by decide)⟩ | refine ⟨fun h => absurd h (by decide), fun _ => ?_⟩)
        refine mg_cv (r181y d hI hf) (by omega) ?_
        repeat (first | refine ⟨_, mg_Fs rfl rfl, ?_⟩ | refine ⟨_, mg_Fd rfl rfl, ?_⟩ | refine ⟨Or.inl rfl, ?_⟩ | refine ⟨Or.inr ⟨_, rfl⟩, ?_⟩ | refine ⟨fun _ => ?_, fun h => absurd h (by decide)⟩ | refine ⟨fun h => absurd h (by decide), fun _ => ?_⟩)
        refine mg_cv (r177y d hw (by decide) (by decide)) (by omega) ?_
        repeat (first | refine ⟨_, mg_Fs rfl rfl, ?_⟩ | refine ⟨_, mg_Fd rfl rfl, ?_⟩ | refine ⟨Or.inl rfl, ?_⟩ | refine ⟨Or.inr ⟨_, rfl⟩, ?_⟩ | refine ⟨fun _ => ?_, fun h => absurd h (by decide)⟩ | refine ⟨fun h => absurd h (by decide), fun _ => ?_⟩)
        refine mg_cv (r176_0 d) (by omega) ?_
        repeat (first | refine ⟨_, mg_Fs rfl rfl, ?_⟩ | refine ⟨_, mg_Fd rfl rfl, ?_⟩ | refine ⟨Or.inl rfl, ?_⟩ | refine ⟨Or.inr ⟨_, rfl⟩, ?_⟩ | refine ⟨fun _ => ?_, fun h => absurd h (by decide)⟩ | refine ⟨fun h => absurd h (by decide), fun _ => ?_⟩)
        refine ⟨by decide, fun h => absurd h (by decide), fun h => absurd h (by decide), fun _ => ?_, fun h => absurd h (by decide), fun h => absurd h (by decide), trivial⟩
        repeat (first | refine ⟨_, mg_Fs rfl rfl, ?_⟩ | refine ⟨_, mg_Fd rfl rfl, ?_⟩ | refine ⟨Or.inl rfl, ?_⟩ | refine ⟨Or.inr ⟨_, rfl⟩, ?_⟩ | refine ⟨fun _ => ?_, fun h => absurd h (by decide)⟩ | refine ⟨fun h => absurd h (by decide), fun _ => ?_⟩)
        refine mg_m_mono (r201A d hI3) (by omega) ?_
        rintro o q G1 ⟨rfl, rfl, hX, hgr, hg, hr, -⟩
        repeat (first | refine ⟨_, mg_Fs rfl rfl, ?_⟩ | refine ⟨_, mg_Fd rfl rfl, ?_⟩ | refine ⟨Or.inl rfl, ?_⟩ | refine ⟨Or.inr ⟨_, rfl⟩, ?_⟩ | refine ⟨fun _ => ?_, fun h => absurd h (by decide)⟩ | refine ⟨fun h => absurd h (by decide), fun _ => ?_⟩)
        refine mg_m_mono (r204 hgr hg d i _ (by omega) (hr i hi).1 (hr i hi).2) (by omega) ?_
        rintro o q G2 ⟨rfl, rfl, f', rfl⟩
        exact ⟨Or.inl rfl, rfl, rfl, hX.u f' (by decide)⟩
      · refine mg_me [] 160 my_264 ms_264 (Nat.le_of_ble_eq_true rfl) ?_
        repeat (first | refine ⟨_, mg_Fs rfl rfl, ?_⟩ | refine ⟨_, mg_Fd rfl rfl, ?_⟩ | refine ⟨Or.inl rfl, ?_⟩ | refine ⟨Or.inr ⟨_, rfl⟩, ?_⟩ | refine ⟨fun _ => ?_, fun h => absurd h (by decide)⟩ | refine ⟨fun h => absurd h (by decide), fun _ => ?_⟩)
        refine mg_cv (r181y d hI hf) (by omega) ?_
        repeat (first | refine ⟨_, mg_Fs rfl rfl, ?_⟩ | refine ⟨_, mg_Fd rfl rfl, ?_⟩ | refine ⟨Or.inl rfl, ?_⟩ | refine ⟨Or.inr ⟨_, rfl⟩, ?_⟩ | refine ⟨fun _ => ?_, fun h => absurd h (by decide)⟩ | refine ⟨fun h => absurd h (by decide), fun _ => ?_⟩)
        refine mg_cv (r177y d hw (by decide) (by decide)) (by omega) ?_
        repeat (first | refine ⟨_, mg_Fs rfl rfl, ?_⟩ | refine ⟨_, mg_Fd rfl rfl, ?_⟩ | refine ⟨Or.inl rfl, ?_⟩ | refine ⟨Or.inr ⟨_, rfl⟩, ?_⟩ | refine ⟨fun _ => ?_, fun h => absurd h (by decide)⟩ | refine ⟨fun h => absurd h (by decide), fun _ => ?_⟩)
        refine mg_cv (r176_0 d) (by omega) ?_
        repeat (first | refine ⟨_, mg_Fs rfl rfl, ?_⟩ | refine ⟨_, mg_Fd rfl rfl, ?_⟩ | refine ⟨Or.inl rfl, ?_⟩ | refine ⟨Or.inr ⟨_, rfl⟩, ?_⟩ | refine ⟨fun _ => ?_, fun h => absurd h (by decide)⟩ | refine ⟨fun h => absurd h (by decide), fun _ => ?_⟩)
        refine ⟨by decide, fun h => absurd h (by decide), fun h => absurd h (by decide), fun h => absurd h (by decide), fun _ => ?_, fun h => absurd h (by decide), trivial⟩
        have hm := r263 (scr := scr) (t := t) d i (aV A) (by omega) (mg_sF G 148 10 (.int 0)) hI3.v h8
        rw [hI3.t hi] at hm
        repeat (first | refine ⟨_, mg_Fs rfl rfl, ?_⟩ | refine ⟨_, mg_Fd rfl rfl, ?_⟩ | refine ⟨Or.inl rfl, ?_⟩ | refine ⟨Or.inr ⟨_, rfl⟩, ?_⟩ | refine ⟨fun _ => ?_, fun h => absurd h (by decide)⟩ | refine ⟨fun h => absurd h (by decide), fun _ => ?_⟩)
        refine mg_cv (hm) (by omega) ?_
        repeat (first | refine ⟨_, mg_Fs rfl rfl, ?_⟩ | refine ⟨_, mg_Fd rfl rfl, ?_⟩ | refine ⟨Or.inl rfl, ?_⟩ | refine ⟨Or.inr ⟨_, rfl⟩, ?_⟩ | refine ⟨fun _ => ?_, fun h => absurd h (by decide)⟩ | refine ⟨fun h => absurd h (by decide), fun _ => ?_⟩)
        exact ⟨rfl, rfl, rX.rf _⟩
      · refine mg_me [] 160 my_264 ms_264 (Nat.le_of_ble_eq_true rfl) ?_
        repeat (first | refine ⟨_, mg_Fs rfl rfl, ?_⟩ | refine ⟨_, mg_Fd rfl rfl, ?_⟩ | refine ⟨Or.inl rfl, ?_⟩ | refine ⟨Or.inr ⟨_, rfl⟩, ?_⟩ | refine ⟨fun _ => ?_, fun h => absurd h (by decide)⟩ | refine ⟨fun h => absurd h (by decide), fun _ => ?_⟩)
        refine mg_cv (r181y d hI hf) (by omega) ?_
        repeat (first | refine ⟨_, mg_Fs rfl rfl, ?_⟩ | refine ⟨_, mg_Fd rfl rfl, ?_⟩ | refine ⟨Or.inl rfl, ?_⟩ | refine ⟨Or.inr ⟨_, rfl⟩, ?_⟩ | refine ⟨fun _ => ?_, fun h => absurd h (by decide)⟩ | refine ⟨fun h => absurd h (by decide), fun _ => ?_⟩)
        refine mg_cv (r177y d hw (by decide) (by decide)) (by omega) ?_
        repeat (first | refine ⟨_, mg_Fs rfl rfl, ?_⟩ | refine ⟨_, mg_Fd rfl rfl, ?_⟩ | refine ⟨Or.inl rfl, ?_⟩ | refine ⟨Or.inr ⟨_, rfl⟩, ?_⟩ | refine ⟨fun _ => ?_, fun h => absurd h (by decide)⟩ | refine ⟨fun h => absurd h (by decide), fun _ => ?_⟩)
        refine mg_cv (r176_0 d) (by omega) ?_
        repeat (first | refine ⟨_, mg_Fs rfl rfl, ?_⟩ | refine ⟨_, mg_Fd rfl rfl, ?_⟩ | refine ⟨Or.inl rfl, ?_⟩ | refine ⟨Or.inr ⟨_, rfl⟩, ?_⟩ | refine ⟨fun _ => ?_, fun h => absurd h (by decide)⟩ | refine ⟨fun h => absurd h (by decide), fun _ => ?_⟩)
        refine ⟨by decide, fun h => absurd h (by decide), fun h => absurd h (by decide), fun h => absurd h (by decide), fun h => absurd h (by decide), fun _ => ?_, trivial⟩
        repeat (first | refine ⟨_, mg_Fs rfl rfl, ?_⟩ | refine ⟨_, mg_Fd rfl rfl, ?_⟩ | refine ⟨Or.inl rfl, ?_⟩ | refine ⟨Or.inr ⟨_, rfl⟩, ?_⟩ | refine ⟨fun _ => ?_, fun h => absurd h (by decide)⟩ | refine ⟨fun h => absurd h (by decide), fun _ => ?_⟩)
        refine mg_cv (r258A d hI3 hi) (by omega) ?_
        repeat (first | refine ⟨_, mg_Fs rfl rfl, ?_⟩ | refine ⟨_, mg_Fd rfl rfl, ?_⟩ | refine ⟨Or.inl rfl, ?_⟩ | refine ⟨Or.inr ⟨_, rfl⟩, ?_⟩ | refine ⟨fun _ => ?_, fun h => absurd h (by decide)⟩ | refine ⟨fun h => absurd h (by decide), fun _ => ?_⟩)
        refine mg_cv (r330 d _ _) (by omega) ?_
        repeat (first | refine ⟨_, mg_Fs rfl rfl, ?_⟩ | refine ⟨_, mg_Fd rfl rfl, ?_⟩ | refine ⟨Or.inl rfl, ?_⟩ | refine ⟨Or.inr ⟨_, rfl⟩, ?_⟩ | refine ⟨fun _ => ?_, fun h => absurd h (by decide)⟩ | refine ⟨fun h => absurd h (by decide), fun _ => ?_⟩)
        exact ⟨rfl, rfl, rX.rf _⟩
      · refine mg_me [] 160 my_264 ms_264 (Nat.le_of_ble_eq_true rfl) ?_
        repeat (first | refine ⟨_, mg_Fs rfl rfl, ?_⟩ | refine ⟨_, mg_Fd rfl rfl, ?_⟩ | refine ⟨Or.inl rfl, ?_⟩ | refine ⟨Or.inr ⟨_, rfl⟩, ?_⟩ | refine ⟨fun _ => ?_, fun h => absurd h (by decide)⟩ | refine ⟨fun h => absurd h (by decide), fun _ => ?_⟩)
        refine mg_cv (r181y d hI hf) (by omega) ?_
        repeat (first | refine ⟨_, mg_Fs rfl rfl, ?_⟩ | refine ⟨_, mg_Fd rfl rfl, ?_⟩ | refine ⟨Or.inl rfl, ?_⟩ | refine ⟨Or.inr ⟨_, rfl⟩, ?_⟩ | refine ⟨fun _ => ?_, fun h => absurd h (by decide)⟩ | refine ⟨fun h => absurd h (by decide), fun _ => ?_⟩)
        refine mg_cv (r177y d hw (by decide) (by decide)) (by omega) ?_
        repeat (first | refine ⟨_, mg_Fs rfl rfl, ?_⟩ | refine ⟨_, mg_Fd rfl rfl, ?_⟩ | refine ⟨Or.inl rfl, ?_⟩ | refine ⟨Or.inr ⟨_, rfl⟩, ?_⟩ | refine ⟨fun _ => ?_, fun h => absurd h (by decide)⟩ | refine ⟨fun h => absurd h (by decide), fun _ => ?_⟩)
        refine mg_cv (r176_0 d) (by omega) ?_
        repeat (first | refine ⟨_, mg_Fs rfl rfl, ?_⟩ | refine ⟨_, mg_Fd rfl rfl, ?_⟩ | refine ⟨Or.inl rfl, ?_⟩ | refine ⟨Or.inr ⟨_, rfl⟩, ?_⟩ | refine ⟨fun _ => ?_, fun h => absurd h (by decide)⟩ | refine ⟨fun h => absurd h (by decide), fun _ => ?_⟩)
        refine ⟨by decide, fun _ => ?_, fun h => absurd h (by decide), fun h => absurd h (by decide), fun h => absurd h (by decide), fun h => absurd h (by decide), trivial⟩
        repeat (first | refine ⟨_, mg_Fs rfl rfl, ?_⟩ | refine ⟨_, mg_Fd rfl rfl, ?_⟩ | refine ⟨Or.inl rfl, ?_⟩ | refine ⟨Or.inr ⟨_, rfl⟩, ?_⟩ | refine ⟨fun _ => ?_, fun h => absurd h (by decide)⟩ | refine ⟨fun h => absurd h (by decide), fun _ => ?_⟩)
        refine ⟨_, _, 90 + 8 * i, mg_Ai rfl (by decide), mg_ixE (by rw [Int32.ofNat_add, Int32.ofNat_mul]; rfl) (by omega), by omega, Or.inl rfl, rfl, ?_, rX.rf _⟩
        rw [show (mg_sF G 148 10 (.int 0)).1 149 (90 + 8 * i) = _ from (hI.fn hi).1]
        rfl
theorem r254 (d : Nat) (hT : rT G S) : mg_m (mg_KM scr t) (d + 1) 254 [.ref 148] G (rA G S (0, sC S)) := by
  have h6 := (hT.s10 (.int (Int32.ofInt 0))).2.2.2.2.2.1.1
  refine mg_me [] 30 my_254 ms_254 (Nat.le_of_ble_eq_true rfl) ?_
  refine ⟨rfl, _, rfl, rfl, _, mg_Fe h6 rfl rfl, Or.inl rfl, rfl, rfl, mg_sF_at _ _ _ _, hT.s10 _, rF.s _ _ _⟩
theorem r255 (d : Nat) (hT : rT G S) : mg_m (mg_KM scr t) (d + 1) 255 [.ref 148] G (rA G S (0, sP S)) := by
  have h7 := (hT.s10 (.int (Int32.ofInt 0))).2.2.2.2.2.1.2
  refine mg_me [] 30 my_255 ms_255 (Nat.le_of_ble_eq_true rfl) ?_
  refine ⟨rfl, _, rfl, rfl, _, mg_Fe h7 rfl rfl, Or.inl rfl, rfl, rfl, mg_sF_at _ _ _ _, hT.s10 _, rF.s _ _ _⟩
theorem r205 (d : Nat) (hT : rT G S) (hl : (sIn S).length + 4 ≤ 600) (x : Int32) : mg_m (mg_KM scr t) (d + 1) 205 [.ref 148, .int x] G (fun o q G' => o = .inl none ∧ q = 0 ∧ rT G' (sInS S (sIn S ++ a_by x)) ∧ rF G G' ∧ G'.2.2.2.2 148 10 = G.2.2.2.2 148 10) := by
  refine mg_me [3] 60 my_205 ms_205 (Nat.le_of_ble_eq_true rfl) ?_
  refine mg_loop 4 (fun k L G' => L = [some (.ref 148), some (.int x), some (.int (Int32.ofInt (24 - 8 * (k : Int))))] ∧ rT G' (sInS S (sIn S ++ (a_by x).take k)) ∧ rF G G' ∧ G'.2.2.2.2 148 10 = G.2.2.2.2 148 10) ?_ ?_ _ _ ⟨rfl, by rw [List.take_zero, List.append_nil]; exact hT, rF.rf _, rfl⟩
  · rintro k L G' hk ⟨rfl, hT1, hF, h10⟩ ih
    obtain ⟨h5, h6, h7⟩ := hT1.2.2.2.2.1
    have hln : (sIn S ++ (a_by x).take k).length = (sIn S).length + k := by
      rw [List.length_append, List.length_take, show (a_by x).length = 4 from rfl]
      omega
    have hsh : ¬ Int32.ofInt (24 - 8 * (k : Int)) < 0 := by rcases (show k = 0 ∨ k = 1 ∨ k = 2 ∨ k = 3 by omega) with rfl | rfl | rfl | rfl <;> decide
    have hdn : Int32.ofInt (24 - 8 * (k : Int)) + Int32.ofInt (-8) = Int32.ofInt (24 - 8 * ((k + 1 : Nat) : Int)) := by rcases (show k = 0 ∨ k = 1 ∨ k = 2 ∨ k = 3 by omega) with rfl | rfl | rfl | rfl <;> decide
    have hby : (a_by x)[k]? = some (((x >>> (Int32.ofInt (24 - 8 * (k : Int)) &&& 31)) &&& 255).toNatClampNeg) := by rcases (show k = 0 ∨ k = 1 ∨ k = 2 ∨ k = 3 by omega) with rfl | rfl | rfl | rfl <;> rfl
    have h5 : G'.2.2.2.2 148 5 = .int (Int32.ofNat ((sIn S).length + k)) := by rw [← hln]; exact h5
    refine mg_go [3] 60 3 ms_205 ?_
    refine ⟨fun h => absurd h hsh, fun _ => ?_⟩
    refine ⟨_, mg_Fs rfl rfl, _, mg_Fe h5 rfl rfl, 600, (sIn S).length + k, rfl, mg_ixN (by omega), by omega, ?_⟩
    refine ⟨_, mg_Fe h5 rfl rfl, rfl, _, rfl, rfl, ?_⟩
    refine ih _ _ ⟨by rw [← hdn] <;> rfl, ?_, (hF.tr (rF.i _ _ _ (by decide))).tr (rF.s _ _ _), (mg_sF_ne _ _ (by decide)).trans h10⟩
    rw [List.take_succ, hby, ← List.append_assoc]
    refine rT.inp (S := sInS S (sIn S ++ (a_by x).take k)) hT1 (fun b hb => mg_u2_ne _ _ _ hb) rfl (fun j hj => mg_sF_ne _ _ (by omega)) ?_
    exact rIn_s hT1.2.2.2.2.1 (by rw [hln]; omega) (by rw [hln]; exact mg_u2_same G'.1 152 _ _) (by rw [hln]; exact (mg_sF_at _ _ _ _).trans (congrArg Value.int (mg_inc _)))
  · rintro L G' ⟨rfl, hT1, hF, h10⟩
    refine mg_go [3] 60 3 ms_205 ?_
    exact ⟨fun _ => ⟨rfl, rfl, hT1, hF, h10⟩, fun h => absurd h (by decide)⟩
theorem r206 (d : Nat) (hT : rT G S) (a b c e f : Int32) : mg_m (mg_KM scr t) (d + 3) 206 [.ref 148, .int a, .int b, .int c, .int e, .int f] G (rAp G (p206 S a b c e f)) := by
  obtain ⟨h5, h6, -⟩ := hT.2.2.2.2.1
  have e20 : Int32.ofNat (sIn S).length + (Int8.ofInt 20).toInt32 = Int32.ofNat ((sIn S).length + 20) := mg_addN _ 20
  have lb : ∀ x, (a_by x).length = 4 := fun x => rfl
  unfold p206 rAp
  by_cases hl : (sIn S).length + 20 ≤ 600
  · rw [if_pos hl]
    have hT1 := hT.s10 (.int 0)
    refine mg_me [] 90 my_206 ms_206 (Nat.le_of_ble_eq_true rfl) ?_
    refine ⟨_, mg_Fe h5 rfl rfl, fun _ => ?_, fun h => absurd h (show ¬ (Int16.ofInt 600).toInt32 < Int32.ofNat (sIn S).length + (Int8.ofInt 20).toInt32 from by rw [e20]; exact mg_nlt (b := 600) hl (by decide))⟩
    repeat (first | refine ⟨_, mg_Fs rfl rfl, ?_⟩ | refine ⟨_, mg_Fd rfl rfl, ?_⟩ | refine ⟨Or.inl rfl, ?_⟩ | refine ⟨Or.inr ⟨_, rfl⟩, ?_⟩ | refine ⟨fun _ => ?_, fun h => absurd h (by decide)⟩ | refine ⟨fun h => absurd h (by decide), fun _ => ?_⟩)
    refine mg_cv (r176_0 d) (by omega) ?_
    repeat (first | refine ⟨_, mg_Fs rfl rfl, ?_⟩ | refine ⟨_, mg_Fd rfl rfl, ?_⟩ | refine ⟨Or.inl rfl, ?_⟩ | refine ⟨Or.inr ⟨_, rfl⟩, ?_⟩ | refine ⟨fun _ => ?_, fun h => absurd h (by decide)⟩ | refine ⟨fun h => absurd h (by decide), fun _ => ?_⟩)
    repeat (first | refine ⟨_, mg_Fs rfl rfl, ?_⟩ | refine ⟨_, mg_Fd rfl rfl, ?_⟩ | refine ⟨Or.inl rfl, ?_⟩ | refine ⟨Or.inr ⟨_, rfl⟩, ?_⟩ | refine ⟨fun _ => ?_, fun h => absurd h (by decide)⟩ | refine ⟨fun h => absurd h (by decide), fun _ => ?_⟩)
    refine mg_m_mono (r205 d hT1 (by show (sIn S).length + 4 ≤ 600; omega) a) (by omega) ?_
    rintro o q G1 ⟨rfl, rfl, g1, g2, g3⟩
    repeat (first | refine ⟨_, mg_Fs rfl rfl, ?_⟩ | refine ⟨_, mg_Fd rfl rfl, ?_⟩ | refine ⟨Or.inl rfl, ?_⟩ | refine ⟨Or.inr ⟨_, rfl⟩, ?_⟩ | refine ⟨fun _ => ?_, fun h => absurd h (by decide)⟩ | refine ⟨fun h => absurd h (by decide), fun _ => ?_⟩)
    refine mg_m_mono (r205 d g1 (by show (sIn S ++ a_by a).length + 4 ≤ 600; rw [List.length_append, lb]; omega) b) (by omega) ?_
    rintro o q G2 ⟨rfl, rfl, g4, g5, g6⟩
    repeat (first | refine ⟨_, mg_Fs rfl rfl, ?_⟩ | refine ⟨_, mg_Fd rfl rfl, ?_⟩ | refine ⟨Or.inl rfl, ?_⟩ | refine ⟨Or.inr ⟨_, rfl⟩, ?_⟩ | refine ⟨fun _ => ?_, fun h => absurd h (by decide)⟩ | refine ⟨fun h => absurd h (by decide), fun _ => ?_⟩)
    refine mg_m_mono (r205 d g4 (by show (sIn S ++ a_by a ++ a_by b).length + 4 ≤ 600; rw [List.length_append, List.length_append, lb, lb]; omega) c) (by omega) ?_
    rintro o q G3 ⟨rfl, rfl, g7, g8, g9⟩
    repeat (first | refine ⟨_, mg_Fs rfl rfl, ?_⟩ | refine ⟨_, mg_Fd rfl rfl, ?_⟩ | refine ⟨Or.inl rfl, ?_⟩ | refine ⟨Or.inr ⟨_, rfl⟩, ?_⟩ | refine ⟨fun _ => ?_, fun h => absurd h (by decide)⟩ | refine ⟨fun h => absurd h (by decide), fun _ => ?_⟩)
    refine mg_m_mono (r205 d g7 (by show (sIn S ++ a_by a ++ a_by b ++ a_by c).length + 4 ≤ 600; rw [List.length_append, List.length_append, List.length_append, lb, lb, lb]; omega) e) (by omega) ?_
    rintro o q G4 ⟨rfl, rfl, g10, g11, g12⟩
    repeat (first | refine ⟨_, mg_Fs rfl rfl, ?_⟩ | refine ⟨_, mg_Fd rfl rfl, ?_⟩ | refine ⟨Or.inl rfl, ?_⟩ | refine ⟨Or.inr ⟨_, rfl⟩, ?_⟩ | refine ⟨fun _ => ?_, fun h => absurd h (by decide)⟩ | refine ⟨fun h => absurd h (by decide), fun _ => ?_⟩)
    refine mg_m_mono (r205 d g10 (by show (sIn S ++ a_by a ++ a_by b ++ a_by c ++ a_by e).length + 4 ≤ 600; rw [List.length_append, List.length_append, List.length_append, List.length_append, lb, lb, lb, lb]; omega) f) (by omega) ?_
    rintro o q G5 ⟨rfl, rfl, g13, g14, g15⟩
    have hln : (sIn S ++ a_by a ++ a_by b ++ a_by c ++ a_by e ++ a_by f).length = (sIn S).length + 20 := by
      rw [List.length_append, List.length_append, List.length_append, List.length_append, List.length_append, lb, lb, lb, lb, lb]
    have h55 : G5.2.2.2.2 148 5 = .int (Int32.ofNat ((sIn S).length + 20)) := g13.2.2.2.2.1.1.trans (congrArg (fun n => Value.int (Int32.ofNat n)) hln)
    refine ⟨_, mg_Fe h55 rfl rfl, Or.inl rfl, rfl, rfl, ?_, g13, ((((rF.s G _ _).tr g2).tr g5).tr g8).tr (g11.tr g14)⟩
    exact g15.trans (g12.trans (g9.trans (g6.trans (g3.trans (mg_sF_at _ _ _ _)))))
  · rw [if_neg hl]
    refine mg_me [] 90 my_206 ms_206 (Nat.le_of_ble_eq_true rfl) ?_
    refine ⟨_, mg_Fe h5 rfl rfl, fun h => absurd h (show ¬ Int32.ofNat (sIn S).length + (Int8.ofInt 20).toInt32 ≤ (Int16.ofInt 600).toInt32 from by rw [e20]; exact fun q => hl ((mg_leN (b := 600) (by omega) (by decide)).mp q)), fun _ => ?_⟩
    repeat (first | refine ⟨_, mg_Fs rfl rfl, ?_⟩ | refine ⟨_, mg_Fd rfl rfl, ?_⟩ | refine ⟨Or.inl rfl, ?_⟩ | refine ⟨Or.inr ⟨_, rfl⟩, ?_⟩ | refine ⟨fun _ => ?_, fun h => absurd h (by decide)⟩ | refine ⟨fun h => absurd h (by decide), fun _ => ?_⟩)
    refine mg_cv (r176_1 d _ _) (by omega) ?_
    repeat (first | refine ⟨_, mg_Fs rfl rfl, ?_⟩ | refine ⟨_, mg_Fd rfl rfl, ?_⟩ | refine ⟨Or.inl rfl, ?_⟩ | refine ⟨Or.inr ⟨_, rfl⟩, ?_⟩ | refine ⟨fun _ => ?_, fun h => absurd h (by decide)⟩ | refine ⟨fun h => absurd h (by decide), fun _ => ?_⟩)
    exact rA_x hT rfl
theorem r207 (d : Nat) (hT : rT G S) (n : Int32) : mg_m (mg_KM scr t) (d + 3) 207 [.ref 148, .int n] G (rAp G (p207 S n)) := by
  obtain ⟨h5, h6, h7⟩ := hT.2.2.2.2.1
  have e1 : Int32.ofNat (sIn S).length = Int32.ofNat ((sIn S).length + 1) - 1 := (mg_dec _).symm
  unfold p207 rAp
  cases hn : vi n ((sIn S).length + 1) with
  | none =>
    refine mg_me [] 90 my_207 ms_207 (Nat.le_of_ble_eq_true rfl) ?_
    refine ⟨_, mg_Fe h5 rfl rfl, ?_⟩
    repeat (first | refine ⟨_, mg_Fs rfl rfl, ?_⟩ | refine ⟨_, mg_Fd rfl rfl, ?_⟩ | refine ⟨Or.inl rfl, ?_⟩ | refine ⟨Or.inr ⟨_, rfl⟩, ?_⟩ | refine ⟨fun _ => ?_, fun h => absurd h (by decide)⟩ | refine ⟨fun h => absurd h (by decide), fun _ => ?_⟩)
    refine mg_cv (r177x d hn e1 (by omega)) (by omega) ?_
    repeat (first | refine ⟨_, mg_Fs rfl rfl, ?_⟩ | refine ⟨_, mg_Fd rfl rfl, ?_⟩ | refine ⟨Or.inl rfl, ?_⟩ | refine ⟨Or.inr ⟨_, rfl⟩, ?_⟩ | refine ⟨fun _ => ?_, fun h => absurd h (by decide)⟩ | refine ⟨fun h => absurd h (by decide), fun _ => ?_⟩)
    refine mg_cv (r176_1 d _ _) (by omega) ?_
    repeat (first | refine ⟨_, mg_Fs rfl rfl, ?_⟩ | refine ⟨_, mg_Fd rfl rfl, ?_⟩ | refine ⟨Or.inl rfl, ?_⟩ | refine ⟨Or.inr ⟨_, rfl⟩, ?_⟩ | refine ⟨fun _ => ?_, fun h => absurd h (by decide)⟩ | refine ⟨fun h => absurd h (by decide), fun _ => ?_⟩)
    exact rA_x hT rfl
  | some k =>
    obtain ⟨rfl, hk⟩ := vi_s hn
    refine mg_me [] 90 my_207 ms_207 (Nat.le_of_ble_eq_true rfl) ?_
    refine ⟨_, mg_Fe h5 rfl rfl, ?_⟩
    repeat (first | refine ⟨_, mg_Fs rfl rfl, ?_⟩ | refine ⟨_, mg_Fd rfl rfl, ?_⟩ | refine ⟨Or.inl rfl, ?_⟩ | refine ⟨Or.inr ⟨_, rfl⟩, ?_⟩ | refine ⟨fun _ => ?_, fun h => absurd h (by decide)⟩ | refine ⟨fun h => absurd h (by decide), fun _ => ?_⟩)
    refine mg_cv (r177y d hn e1 (by omega)) (by omega) ?_
    repeat (first | refine ⟨_, mg_Fs rfl rfl, ?_⟩ | refine ⟨_, mg_Fd rfl rfl, ?_⟩ | refine ⟨Or.inl rfl, ?_⟩ | refine ⟨Or.inr ⟨_, rfl⟩, ?_⟩ | refine ⟨fun _ => ?_, fun h => absurd h (by decide)⟩ | refine ⟨fun h => absurd h (by decide), fun _ => ?_⟩)
    refine mg_cv (r176_0 d) (by omega) ?_
    refine ⟨fun _ => ⟨rfl, _, rfl, rfl, Or.inl rfl, rfl, rfl, ?_, ?_, (rF.s G _ _).tr (rF.s _ _ _)⟩, fun h => absurd rfl h⟩
    · exact (mg_sF_ne _ _ (by decide)).trans (mg_sF_at _ _ _ _)
    · have hln : ((sIn S).take k).length = k := by rw [List.length_take]; omega
      refine rT.inp (hT.s10 (.int 0)) (fun _ _ => rfl) rfl (fun j hj => mg_sF_ne _ _ (by omega)) ⟨?_, by rw [hln]; omega, fun i c hi => ?_⟩
      · rw [hln]
        exact mg_sF_at _ _ _ _
      · rw [List.getElem?_take] at hi
        split at hi
        · exact h7 i c hi
        · cases hi
end RM
