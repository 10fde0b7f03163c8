/-! THE LAW: its loop -/
theorem lw_sub {L : Nat} (hL : L ≤ 3072) : (Int32.ofNat L - (Int8.ofInt 6).toInt32).toInt = (L : Int) - 6 := by
  rw [Int32.toInt_sub, Int32.toInt_ofNat_of_lt (by omega), show ((Int8.ofInt 6).toInt32).toInt = 6 by decide]
  rw [Int.bmod_def]
  omega
section LW
variable {L : Nat} {xs : Nat → Int32}
theorem lw_end (d i n : Nat) (e6 e7 e8 : Option Value) (G : mg_G) : mg_wp (mg_KM (L, xs) shO) mc_law (d + 821) 3441 [some (.ref 1000002), some (.ref 0), some (.ref 148), some (.ref 169), some (.ref 170), some (.int (Int32.ofNat i)), e6, e7, e8] [] G (lwQ n) := by
  refine mg_goz [3435] 10 3441 ms_law mlz_41 ?_
  exact ⟨Or.inr rfl, rfl, Nat.zero_le _⟩
theorem lw_it (hL : L ≤ 3072) (d i n : Nat) (hi : i + 6 ≤ L) (ih : ∀ (G : mg_G) (S : a_S) (e6 e7 e8 : Option Value), cT G S → rT G S → mg_wp (mg_KM (L, xs) shO) mc_law (d + 821) 28 [some (.ref 1000002), some (.ref 0), some (.ref 148), some (.ref 169), some (.ref 170), some (.int (Int32.ofNat (i + 6))), e6, e7, e8] [] G (lwQ n)) (G : mg_G) (S : a_S) (e6 e7 e8 : Option Value) (hc : cT G S) (hr : rT G S) : mg_wp (mg_KM (L, xs) shO) mc_law (d + 821) 38 [some (.ref 1000002), some (.ref 0), some (.ref 148), some (.ref 169), some (.ref 170), some (.int (Int32.ofNat i)), e6, e7, e8] [] G (lwQ (n + 1)) := by
  have hn : lwN L xs (d + 821) i n := fun G' S' e6 e7 e8 hc hr => by
    refine mg_goz [28] 10 3435 ms_law mlz_41 ?_
    have e : Int32.ofNat i + Int32.ofInt 6 = Int32.ofNat (i + 6) := (Int32.ofNat_add i 6).symm
    show mg_wp (mg_KM (L, xs) shO) mc_law (d + 821) 28 [some (.ref 1000002), some (.ref 0), some (.ref 148), some (.ref 169), some (.ref 170), some (.int (Int32.ofNat i + Int32.ofInt 6)), e6, e7, e8] [] G' (lwQ n)
    rw [e]
    exact ih G' S' e6 e7 e8 hc hr
  refine mg_goz [268, 372, 428, 472, 485, 498, 554, 622, 678, 746, 790, 858, 926, 994, 1050, 1118, 1186, 1254, 1322, 1378, 1434, 1490, 1567, 1642, 1717, 1785, 1841, 1909, 1977, 2057, 2125, 2181, 2237, 2317, 2397, 2453, 2549, 2645, 2725, 2781, 2837, 2905, 2961, 2974, 3042, 3110, 3154, 3198, 3254, 3310, 3366, 3379, 3435] 10 38 ms_law mlz_0 ?_
  refine ⟨_, _, i, mg_Ao (show mm_old L xs 1000002 = some (0, (L, .inl xs)) from rfl) (by decide), mg_ixN (by omega), by omega, ?_⟩
  refine ⟨by decide, fun _ => hn.go hc hr (k := 0) (by omega) (fun o j G2 w => w), fun _ => lx_0 d i n e6 e7 e8 hL hi hc hr hn, fun _ => lx_1 d i n e6 e7 e8 hL hi hc hr hn, fun _ => lx_2 d i n e6 e7 e8 hL hi hc hr hn, fun _ => lx_3 d i n e6 e7 e8 hL hi hc hr hn, fun _ => lx_4 d i n e6 e7 e8 hL hi hc hr hn, fun _ => lx_5 d i n e6 e7 e8 hL hi hc hr hn, fun _ => lx_6 d i n e6 e7 e8 hL hi hc hr hn, fun _ => lx_7 d i n e6 e7 e8 hL hi hc hr hn, fun _ => lx_8 d i n e6 e7 e8 hL hi hc hr hn, fun _ => lx_9 d i n e6 e7 e8 hL hi hc hr hn, fun _ => lx_10 d i n e6 e7 e8 hL hi hc hr hn, fun _ => lx_11 d i n e6 e7 e8 hL hi hc hr hn, fun _ => lx_12 d i n e6 e7 e8 hL hi hc hr hn, fun _ => lx_13 d i n e6 e7 e8 hL hi hc hr hn, fun _ => lx_14 d i n e6 e7 e8 hL hi hc hr hn, fun _ => lx_15 d i n e6 e7 e8 hL hi hc hr hn, fun _ => lx_16 d i n e6 e7 e8 hL hi hc hr hn, fun _ => lx_17 d i n e6 e7 e8 hL hi hc hr hn, fun _ => lx_18 d i n e6 e7 e8 hL hi hc hr hn, fun _ => lx_19 d i n e6 e7 e8 hL hi hc hr hn, fun _ => lx_20 d i n e6 e7 e8 hL hi hc hr hn, fun _ => lx_21 d i n e6 e7 e8 hL hi hc hr hn, fun _ => lx_22 d i n e6 e7 e8 hL hi hc hr hn, fun _ => lx_23 d i n e6 e7 e8 hL hi hc hr hn, fun _ => lx_24 d i n e6 e7 e8 hL hi hc hr hn, fun _ => lx_25 d i n e6 e7 e8 hL hi hc hr hn, fun _ => lx_26 d i n e6 e7 e8 hL hi hc hr hn, fun _ => lx_27 d i n e6 e7 e8 hL hi hc hr hn, fun _ => lx_28 d i n e6 e7 e8 hL hi hc hr hn, fun _ => lx_29 d i n e6 e7 e8 hL hi hc hr hn, fun _ => lx_30 d i n e6 e7 e8 hL hi hc hr hn, fun _ => lx_31 d i n e6 e7 e8 hL hi hc hr hn, fun _ => lx_32 d i n e6 e7 e8 hL hi hc hr hn, fun _ => lx_33 d i n e6 e7 e8 hL hi hc hr hn, fun _ => lx_34 d i n e6 e7 e8 hL hi hc hr hn, fun _ => lx_35 d i n e6 e7 e8 hL hi hc hr hn, fun _ => lx_36 d i n e6 e7 e8 hL hi hc hr hn, fun _ => lx_37 d i n e6 e7 e8 hL hi hc hr hn, fun _ => lx_38 d i n e6 e7 e8 hL hi hc hr hn, fun _ => lx_39 d i n e6 e7 e8 hL hi hc hr hn, fun _ => lx_40 d i n e6 e7 e8 hL hi hc hr hn, fun _ => lx_41 d i n e6 e7 e8 hL hi hc hr hn, fun _ => lx_42 d i n e6 e7 e8 hL hi hc hr hn, fun _ => lx_43 d i n e6 e7 e8 hL hi hc hr hn, fun _ => lx_44 d i n e6 e7 e8 hL hi hc hr hn, fun _ => lx_45 d i n e6 e7 e8 hL hi hc hr hn, fun _ => lx_46 d i n e6 e7 e8 hL hi hc hr hn, fun _ => lx_47 d i n e6 e7 e8 hL hi hc hr hn, fun _ => lx_48 d i n e6 e7 e8 hL hi hc hr hn, fun _ => lx_49 d i n e6 e7 e8 hL hi hc hr hn, fun _ => lx_50 d i n e6 e7 e8 hL hi hc hr hn, fun _ => lx_51 d i n e6 e7 e8 hL hi hc hr hn, trivial⟩
theorem lw_loop (hL : L ≤ 3072) (d : Nat) : ∀ (n i : Nat) (G : mg_G) (S : a_S) (e6 e7 e8 : Option Value), L < i + 6 * n + 6 → i ≤ 3072 → cT G S → rT G S → mg_wp (mg_KM (L, xs) shO) mc_law (d + 821) 28 [some (.ref 1000002), some (.ref 0), some (.ref 148), some (.ref 169), some (.ref 170), some (.int (Int32.ofNat i)), e6, e7, e8] [] G (lwQ n)
  | 0, i, G, S, e6, e7, e8, h, h9, hc, hr => by
    refine mg_goz [38, 3441] 10 28 ms_law mlz_0 ?_
    refine ⟨_, _, _, mg_Ao (show mm_old L xs 1000002 = some (0, (L, .inl xs)) from rfl) (by decide), by decide, ?_⟩
    refine ⟨fun _ => lw_end d i 0 e6 e7 e8 G, fun z => ?_⟩
    have z2 : (Int32.ofNat i).toInt ≤ (Int32.ofNat L - (Int8.ofInt 6).toInt32).toInt := Int32.le_iff_toInt_le.mp z
    rw [lw_sub hL, Int32.toInt_ofNat_of_lt (by omega)] at z2
    omega
  | n + 1, i, G, S, e6, e7, e8, h, h9, hc, hr => by
    refine mg_goz [38, 3441] 10 28 ms_law mlz_0 ?_
    refine ⟨_, _, _, mg_Ao (show mm_old L xs 1000002 = some (0, (L, .inl xs)) from rfl) (by decide), by decide, ?_⟩
    refine ⟨fun _ => lw_end d i (n + 1) e6 e7 e8 G, fun z => ?_⟩
    have z2 : (Int32.ofNat i).toInt ≤ (Int32.ofNat L - (Int8.ofInt 6).toInt32).toInt := Int32.le_iff_toInt_le.mp z
    rw [lw_sub hL, Int32.toInt_ofNat_of_lt (by omega)] at z2
    exact lw_it hL d i n (by omega) (fun G S e6 e7 e8 hc hr => lw_loop hL d n (i + 6) G S e6 e7 e8 (by omega) (by omega) hc hr) G S e6 e7 e8 hc hr
end LW
