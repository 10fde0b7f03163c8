def a_ush (x y : Int32) : Int32 := (x.toUInt32 >>> (y.toUInt32 &&& Int32.toUInt32 31)).toInt32
/-- how many bits are 1, as the JDK counts them -/
def a_bc (x : Int32) : Int32 :=
  let a := x - (a_ush x (Int32.ofInt 1) &&& 1431655765)
  let b := (a &&& 858993459) + (a_ush a (Int32.ofInt 2) &&& 858993459)
  let c := (b + a_ush b (Int32.ofInt 4)) &&& 252645135
  let e := c + a_ush c (Int8.ofInt 8).toInt32
  let f := e + a_ush e (Int8.ofInt 16).toInt32
  f &&& (Int8.ofInt 63).toInt32
theorem r330 {K : mg_K} (d : Nat) (x : Int32) (G : mg_G) : mg_m K (d + 1) 330 [.int x] G (mg_v (.int (a_bc x)) G) := by
  refine mg_me [] 60 my_330 ms_330 (Nat.le_of_ble_eq_true rfl) ?_
  exact ⟨Or.inl rfl, rfl, rfl, rfl⟩
def q264 (A : a_A) (f w : Int32) : qR := qF A f fun f => match vi w 5 with
  | none => (2, 0)
  | some 0 => (0, Int32.ofNat (aR A f))
  | some 1 => (0, a_sum (fun i => b2 (g_rc (aG A) (aV A) (aR A f) (i + 2))) (gN (aG A) - 2))
  | some 2 => (0, a_sum (a_atI (aT A f)) (2 ^ aV A))
  | some 3 => (0, a_bc (a_sup A f))
  | some _ => (0, Int32.ofNat (aFN A f).length)
/-- the four bytes of an int -/
def a_by (x : Int32) : List Nat := [((x >>> (Int32.ofInt 24 &&& 31)) &&& 255).toNatClampNeg, ((x >>> (Int32.ofInt 16 &&& 31)) &&& 255).toNatClampNeg, ((x >>> (Int32.ofInt 8 &&& 31)) &&& 255).toNatClampNeg, ((x >>> (Int32.ofInt 0 &&& 31)) &&& 255).toNatClampNeg]
theorem a_255 (x : Int32) : x &&& 255 = Int32.ofNat ((x &&& 255).toNatClampNeg) ∧ (x &&& 255).toNatClampNeg < 256 := by
  have h : (x &&& 255).toBitVec.toNat = x.toBitVec.toNat % 256 := by
    show (x.toBitVec &&& 255#32).toNat = _
    rw [BitVec.toNat_and]
    exact Nat.and_two_pow_sub_one_eq_mod _ 8
  have h2 : (x &&& 255).toInt = ((x.toBitVec.toNat % 256 : Nat) : Int) := by
    show (x &&& 255).toBitVec.toInt = _
    rw [BitVec.toInt_eq_toNat_of_lt (by rw [h]; omega), h]
  have h3 : (x &&& 255).toNatClampNeg = x.toBitVec.toNat % 256 := by
    rw [Int32.toNatClampNeg, h2]
    exact Int.toNat_natCast _
  refine ⟨Int32.toInt_inj.mp ?_, by omega⟩
  rw [h2, h3, Int32.toInt_ofNat_of_lt (by omega)]
def sInS (S : a_S) (l : List Nat) : a_S := (sA S, sU S, sV S, l, S.2.2.2.2)
def p206 (S : a_S) (a b c d e : Int32) : a_S × qR := if (sIn S).length + 20 ≤ 600 then (sInS S (sIn S ++ a_by a ++ a_by b ++ a_by c ++ a_by d ++ a_by e), (0, Int32.ofNat ((sIn S).length + 20))) else (S, (1, 0))
def p207 (S : a_S) (n : Int32) : a_S × qR := match vi n ((sIn S).length + 1) with
  | none => (S, (1, 0))
  | some n => (sInS S ((sIn S).take n), (0, Int32.ofNat n))
theorem rT.inp {G G' : mg_G} {S : a_S} (h : rT G S) {l : List Nat} (h1 : ∀ b, b ≠ 152 → G'.1 b = G.1 b) (h2 : G'.2.1 = G.2.1) (h3 : ∀ k, k ≠ 5 → G'.2.2.2.2 148 k = G.2.2.2.2 148 k) (hl : rIn G' l) : rT G' (sInS S l) := by
  obtain ⟨g1, g2, g3, g4, g5, ⟨g6, g7⟩, g8⟩ := h
  have bb : ∀ {c : Nat} {B : a_A}, bS G c B → bS G' c B := fun {c B} q => ⟨q.1.c (h1 149 (by decide)) (by rw [h2]), q.2⟩
  exact ⟨fun v hv => by rw [h2]; exact g1 v hv, bb g2, ⟨(h3 3 (by decide)).trans g3.1, g3.2.1, fun i B hi => bb (g3.2.2 i B hi)⟩, fun s hs => ⟨by rw [h1 151 (by decide)]; exact (g4 s hs).1, fun B hB => bb ((g4 s hs).2 B hB)⟩, hl, ⟨(h3 6 (by decide)).trans g6, (h3 7 (by decide)).trans g7⟩, ⟨(h3 9 (by decide)).trans g8.1, g8.2.1, fun i c hi => by rw [h1 153 (by decide)]; exact g8.2.2 i c hi⟩⟩
section RM
variable {scr : Nat × (Nat → Int32)} {t : List mg_S} {G : mg_G} {A : a_A} {S : a_S}
end RM
