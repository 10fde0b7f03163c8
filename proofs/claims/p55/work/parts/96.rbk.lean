theorem mg_dds {K : mg_K} {c : mm_Code} {d pc len a b e1 e2 : Nat} {i : Instr} {hs : List (String × Nat × Nat × Nat)} {L : mm_L} {S r : List Value} {G : mg_G} {Q : mg_Q} (hl : c.lookup pc = some (len, 0, a, b, e1, e2, i, hs)) (e : mm_alu i S = some r) (h : mg_wp K c d (pc + len) L r G Q) : mg_wp K c d pc L S G Q :=
  mg_st0 hl (fun call ρ => by simp only [mm_step, e]) h
section RM
variable {scr : Nat × (Nat → Int32)} {t : List mg_S} {G : mg_G} {A : a_A} {S : a_S} {g : a_Gr}
end RM
