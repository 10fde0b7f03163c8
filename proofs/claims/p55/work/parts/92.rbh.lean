/-- a change: the state B, and B's size -/
def pCh (S : a_S) (B : a_A) : a_S × qR := ((B, a_push (sU S) (sA S), S.2.2), (0, Int32.ofNat (aN B).length))
def p314 (S : a_S) (f : Int32) : a_S × qR := pF S f fun f => ((remF (sA S) f, a_push (sU S) (sA S), S.2.2), (0, Int32.ofNat (aN (sA S)).length - Int32.ofNat (aN (remF (sA S) f)).length))
def p315 (S : a_S) (l : Int32) : a_S × qR := match vi l (aV (sA S) - 1) with
  | none => (S, (1, 0))
  | some l => pCh S (setD (sA S) (a_mv (aD (sA S)) l (l + 1)))
def p316 (S : a_S) (v l : Int32) : a_S × qR := pV S v fun v => pV S l fun l => pCh S (a_shf (sA S) v l)
def p317 (S : a_S) (v : Int32) : a_S × qR := pV S v fun v => pCh S (a_sft (sA S) v)
def p318 (S : a_S) : a_S × qR := pCh S (a_sfa (sA S))
theorem mg_pre2 {n : Nat} (h1 : 1 ≤ n) (hn : n < 2147483648) : Int32.ofNat n - Int32.ofInt 2 = Int32.ofNat (n - 1) - 1 := by
  apply Int32.toInt_inj.mp
  rw [mg_pre (show n - 1 < 2147483648 by omega)]
  by_cases h : n = 1
  · subst h; decide
  · rw [show Int32.ofNat n - Int32.ofInt 2 = Int32.ofNat n - Int32.ofNat 2 from rfl, mg_subN (show 2 ≤ n by omega), mg_toN (by omega)]
    omega
section RM
variable {scr : Nat × (Nat → Int32)} {t : List mg_S} {G : mg_G} {A : a_A} {S : a_S}
end RM
