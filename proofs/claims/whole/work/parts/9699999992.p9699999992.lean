/-! THE LAW: its methods that catch -/
theorem cT.hi {G G' : mg_G} {S : a_S} (h : cT G S) (f : mg_fr (fun b => 148 ≤ b) G G') : cT G' S := by
  obtain ⟨g1, g2, g3, g4, g5, g6, g7, g8⟩ := h
  have e3 := (f 3 (by decide)).2.2.2.2
  exact ⟨g1.fr f (fun a ha => by unfold kQ at ha; omega), g2, g3.fr f (fun a ha => by omega), g4.fr f (fun a ha => by omega), g5.fr f (by decide) (by decide), ⟨(congrFun e3 6).trans g6.1, (congrFun e3 7).trans g6.2⟩, g7.fr f (by decide) (by decide), g8.fr f (by decide) (fun a ha => by unfold kG at ha; omega)⟩
theorem cA_1 {G G' : mg_G} {S : a_S} {a : qR} {E : String} {o : Option Value ⊕ String} {q : Nat} (w : cA G (ex1 E) S a o q G') (hr : q1_ a.1) : ((a.1 = 0 ∧ o = .inl (some (.int a.2))) ∨ (a.1 = 1 ∧ o = .inr E)) ∧ q ≤ 2 ∧ cT G' S ∧ cFr148 G G' := by
  obtain ⟨h, h2⟩ := w
  refine ⟨?_, h2⟩
  rcases h with h | ⟨h, h3⟩
  · exact Or.inl h
  · rcases hr with q | q
    · exact absurd q h
    · exact Or.inr ⟨q, h3⟩
theorem cA_2 {G G' : mg_G} {S : a_S} {a : qR} {E E2 : String} {o : Option Value ⊕ String} {q : Nat} (w : cA G (ex2 E E2) S a o q G') (hr : q2_ a.1) : ((a.1 = 0 ∧ o = .inl (some (.int a.2))) ∨ (a.1 = 1 ∧ o = .inr E) ∨ (a.1 = 2 ∧ o = .inr E2)) ∧ q ≤ 2 ∧ cT G' S ∧ cFr148 G G' := by
  obtain ⟨h, h2⟩ := w
  refine ⟨?_, h2⟩
  rcases h with h | ⟨h, h3⟩
  · exact Or.inl h
  · rcases hr with q | q | q
    · exact absurd q h
    · rw [q] at h3
      exact Or.inr (Or.inl ⟨q, h3⟩)
    · rw [q] at h3
      exact Or.inr (Or.inr ⟨q, h3⟩)
theorem cA_3 {G G' : mg_G} {S : a_S} {a : qR} {E E2 E3 : String} {o : Option Value ⊕ String} {q : Nat} (w : cA G (ex3 E E2 E3) S a o q G') (hr : q3_ a.1) : ((a.1 = 0 ∧ o = .inl (some (.int a.2))) ∨ (a.1 = 1 ∧ o = .inr E) ∨ (a.1 = 2 ∧ o = .inr E2) ∨ (a.1 = 3 ∧ o = .inr E3)) ∧ q ≤ 2 ∧ cT G' S ∧ cFr148 G G' := by
  obtain ⟨h, h2⟩ := w
  refine ⟨?_, h2⟩
  rcases h with h | ⟨h, h3⟩
  · exact Or.inl h
  · rcases hr with q | q | q | q
    · exact absurd q h
    · rw [q] at h3
      exact Or.inr (Or.inl ⟨q, h3⟩)
    · rw [q] at h3
      exact Or.inr (Or.inr (Or.inl ⟨q, h3⟩))
    · rw [q] at h3
      exact Or.inr (Or.inr (Or.inr ⟨q, h3⟩))
theorem cAd_1 {G G' : mg_G} {S : a_S} {a : Int32 × UInt64} {E : String} {o : Option Value ⊕ String} {q : Nat} (w : cAd G (ex1 E) S a o q G') (hr : q1_ a.1) : ((a.1 = 0 ∧ o = .inl (some (.double a.2))) ∨ (a.1 = 1 ∧ o = .inr E)) ∧ q ≤ 2 ∧ cT G' S ∧ cFr148 G G' := by
  obtain ⟨h, h2⟩ := w
  refine ⟨?_, h2⟩
  rcases h with h | ⟨h, h3⟩
  · exact Or.inl h
  · rcases hr with q | q
    · exact absurd q h
    · exact Or.inr ⟨q, h3⟩
abbrev cFo (G G' : mg_G) : Prop := mg_fr (fun b => b < 148 ∨ b = 169 ∨ b = 170) G G'
theorem cFo.J (G : mg_G) (x : Int64) : mg_fr (fun b => b = 169) G (mg_sJ G 169 0 x) := mg_fr.sJ _ _ _ rfl
theorem mg_sJ_v (G : mg_G) (x : Int64) : (mg_sJ G 169 0 x).2.1 169 0 = x := by
  show mg_u2 G.2.1 169 0 x 169 0 = x
  rw [mg_u2_at, if_pos ⟨rfl, rfl⟩]
/-- what such a method answers: which exception; the value lies in the array -/
def wP9 (G : mg_G) (S' : a_S) (a : qR) : mg_Q := fun o q G' => o = .inl (some (.int a.1)) ∧ q ≤ 2 ∧ cT G' S' ∧ cFo G G' ∧ (a.1 = 0 → G'.2.1 169 0 = a.2.toInt64)
def wB9 (G : mg_G) (S' : a_S) (a : qR) : mg_Q := fun o q G' => o = .inl (some (.int a.1)) ∧ q ≤ 2 ∧ cT G' S' ∧ cFo G G' ∧ (a.1 = 0 → G'.2.1 169 0 = if a.2 = 0 then 0 else 1)
def wD9 (G : mg_G) (S' : a_S) (a : Int32 × UInt64) : mg_Q := fun o q G' => o = .inl (some (.int a.1)) ∧ q ≤ 2 ∧ cT G' S' ∧ cFo G G' ∧ (a.1 = 0 → G'.2.2.1 170 0 = a.2)
theorem wP9_0 {G G1 : mg_G} {S' : a_S} {a : qR} {q : Nat} (h0 : a.1 = 0) (hq : q ≤ 2) (hT : cT G1 S') (hF : cFr148 G G1) : wP9 G S' a (.inl (some (.int 0))) q (mg_sJ G1 169 0 a.2.toInt64) :=
  ⟨by rw [h0], hq, hT.hi ((cFo.J G1 _).mono (fun b hb => by omega)), (hF.mono (fun b hb => Or.inl hb)).tr ((cFo.J G1 _).mono (fun b hb => Or.inr (Or.inl hb))), fun _ => mg_sJ_v _ _⟩
theorem wP9_x {G G1 : mg_G} {S' : a_S} {a : qR} {q : Nat} {x : Int32} (h0 : a.1 = x) (hx : x ≠ 0) (hq : q ≤ 2) (hT : cT G1 S') (hF : cFr148 G G1) : wP9 G S' a (.inl (some (.int x))) q G1 :=
  ⟨by rw [h0], hq, hT, hF.mono (fun b hb => Or.inl hb), fun z => absurd (h0.symm.trans z) hx⟩
theorem wB9_0 {G G1 : mg_G} {S' : a_S} {a : qR} {q : Nat} {x : Int64} (h0 : a.1 = 0) (e : x = if a.2 = 0 then 0 else 1) (hq : q ≤ 2) (hT : cT G1 S') (hF : cFr148 G G1) : wB9 G S' a (.inl (some (.int 0))) q (mg_sJ G1 169 0 x) :=
  ⟨by rw [h0], hq, hT.hi ((cFo.J G1 _).mono (fun b hb => by omega)), (hF.mono (fun b hb => Or.inl hb)).tr ((cFo.J G1 _).mono (fun b hb => Or.inr (Or.inl hb))), fun _ => (mg_sJ_v _ _).trans e⟩
theorem wB9_x {G G1 : mg_G} {S' : a_S} {a : qR} {q : Nat} {x : Int32} (h0 : a.1 = x) (hx : x ≠ 0) (hq : q ≤ 2) (hT : cT G1 S') (hF : cFr148 G G1) : wB9 G S' a (.inl (some (.int x))) q G1 :=
  ⟨by rw [h0], hq, hT, hF.mono (fun b hb => Or.inl hb), fun z => absurd (h0.symm.trans z) hx⟩
theorem wD9_x {G G1 : mg_G} {S' : a_S} {a : Int32 × UInt64} {q : Nat} {x : Int32} (h0 : a.1 = x) (hx : x ≠ 0) (hq : q ≤ 2) (hT : cT G1 S') (hF : cFr148 G G1) : wD9 G S' a (.inl (some (.int x))) q G1 :=
  ⟨by rw [h0], hq, hT, hF.mono (fun b hb => Or.inl hb), fun z => absurd (h0.symm.trans z) hx⟩
section RM
variable {scr : Nat × (Nat → Int32)} {G : mg_G} {S' : a_S} {a : qR}
theorem w343 (d : Nat) (a_ : Int32) (b_ : Int32) (c_ : Int32) (e_ : Int32) (f_ : Int32) (hm : mg_m (mg_KM scr shO) (d + 820) 104 [.ref 0, .int a_, .int b_, .int c_, .int e_, .int f_] G (cA G (ex1 xS) S' a)) (hr : q1_ a.1) : mg_m (mg_KM scr shO) (d + 821) 343 [.ref 0, .int a_, .int b_, .int c_, .int e_, .int f_, .ref 169] G (wP9 G S' a) := by
  refine mg_me [] 60 my_343 ms_343 (Nat.le_of_ble_eq_true rfl) ?_
  repeat (first | refine ⟨_, mg_Fs rfl rfl, ?_⟩ | refine ⟨Or.inl rfl, ?_⟩ | refine ⟨Or.inr ⟨_, rfl⟩, ?_⟩ | refine ⟨fun _ => ?_, fun h => absurd h (by decide)⟩ | refine ⟨fun h => absurd h (by decide), fun _ => ?_⟩)
  refine mg_m_mono (hm) (by omega) ?_
  rintro o q G1 w
  obtain ⟨(⟨h0, rfl⟩ | ⟨h0, rfl⟩), hq, hT1, hF1⟩ := cA_1 w hr
  · exact ⟨1, 0, rfl, ⟨by decide, by decide⟩, by decide, Or.inl rfl, wP9_0 h0 (by omega) hT1 hF1⟩
  · exact ⟨show 7 < 8 by decide, Or.inl rfl, wP9_x h0 (by decide) (by omega) hT1 hF1⟩
theorem w344 (d : Nat) (n_ : Int32) (hm : mg_m (mg_KM scr shO) (d + 820) 105 [.ref 0, .int n_] G (cA G (ex1 xA) S' a)) (hr : q1_ a.1) : mg_m (mg_KM scr shO) (d + 821) 344 [.ref 0, .int n_, .ref 169] G (wP9 G S' a) := by
  refine mg_me [] 60 my_344 ms_344 (Nat.le_of_ble_eq_true rfl) ?_
  repeat (first | refine ⟨_, mg_Fs rfl rfl, ?_⟩ | refine ⟨Or.inl rfl, ?_⟩ | refine ⟨Or.inr ⟨_, rfl⟩, ?_⟩ | refine ⟨fun _ => ?_, fun h => absurd h (by decide)⟩ | refine ⟨fun h => absurd h (by decide), fun _ => ?_⟩)
  refine mg_m_mono (hm) (by omega) ?_
  rintro o q G1 w
  obtain ⟨(⟨h0, rfl⟩ | ⟨h0, rfl⟩), hq, hT1, hF1⟩ := cA_1 w hr
  · exact ⟨1, 0, rfl, ⟨by decide, by decide⟩, by decide, Or.inl rfl, wP9_0 h0 (by omega) hT1 hF1⟩
  · exact ⟨show 3 < 4 by decide, Or.inl rfl, wP9_x h0 (by decide) (by omega) hT1 hF1⟩
theorem w345 (d : Nat)  (hm : mg_m (mg_KM scr shO) (d + 820) 106 [.ref 0] G (cA G (ex1 xA) S' a)) (hr : q1_ a.1) : mg_m (mg_KM scr shO) (d + 821) 345 [.ref 0, .ref 169] G (wP9 G S' a) := by
  refine mg_me [] 60 my_345 ms_345 (Nat.le_of_ble_eq_true rfl) ?_
  repeat (first | refine ⟨_, mg_Fs rfl rfl, ?_⟩ | refine ⟨Or.inl rfl, ?_⟩ | refine ⟨Or.inr ⟨_, rfl⟩, ?_⟩ | refine ⟨fun _ => ?_, fun h => absurd h (by decide)⟩ | refine ⟨fun h => absurd h (by decide), fun _ => ?_⟩)
  refine mg_m_mono (hm) (by omega) ?_
  rintro o q G1 w
  obtain ⟨(⟨h0, rfl⟩ | ⟨h0, rfl⟩), hq, hT1, hF1⟩ := cA_1 w hr
  · exact ⟨1, 0, rfl, ⟨by decide, by decide⟩, by decide, Or.inl rfl, wP9_0 h0 (by omega) hT1 hF1⟩
  · exact ⟨show 2 < 3 by decide, Or.inl rfl, wP9_x h0 (by decide) (by omega) hT1 hF1⟩
theorem w346 (d : Nat) (w_ : Int32) (hm : mg_m (mg_KM scr shO) (d + 820) 109 [.ref 0, .int w_] G (cA G (ex1 xA) S' a)) (hr : q1_ a.1) : mg_m (mg_KM scr shO) (d + 821) 346 [.ref 0, .int w_, .ref 169] G (wP9 G S' a) := by
  refine mg_me [] 60 my_346 ms_346 (Nat.le_of_ble_eq_true rfl) ?_
  repeat (first | refine ⟨_, mg_Fs rfl rfl, ?_⟩ | refine ⟨Or.inl rfl, ?_⟩ | refine ⟨Or.inr ⟨_, rfl⟩, ?_⟩ | refine ⟨fun _ => ?_, fun h => absurd h (by decide)⟩ | refine ⟨fun h => absurd h (by decide), fun _ => ?_⟩)
  refine mg_m_mono (hm) (by omega) ?_
  rintro o q G1 w
  obtain ⟨(⟨h0, rfl⟩ | ⟨h0, rfl⟩), hq, hT1, hF1⟩ := cA_1 w hr
  · exact ⟨1, 0, rfl, ⟨by decide, by decide⟩, by decide, Or.inl rfl, wP9_0 h0 (by omega) hT1 hF1⟩
  · exact ⟨show 3 < 4 by decide, Or.inl rfl, wP9_x h0 (by decide) (by omega) hT1 hF1⟩
theorem w347 (d : Nat) (v_ : Int32) (w_ : Int32) (hm : mg_m (mg_KM scr shO) (d + 820) 110 [.ref 0, .int v_, .int w_] G (cA G (ex2 xI xA) S' a)) (hr : q2_ a.1) : mg_m (mg_KM scr shO) (d + 821) 347 [.ref 0, .int v_, .int w_, .ref 169] G (wP9 G S' a) := by
  refine mg_me [] 60 my_347 ms_347 (Nat.le_of_ble_eq_true rfl) ?_
  repeat (first | refine ⟨_, mg_Fs rfl rfl, ?_⟩ | refine ⟨Or.inl rfl, ?_⟩ | refine ⟨Or.inr ⟨_, rfl⟩, ?_⟩ | refine ⟨fun _ => ?_, fun h => absurd h (by decide)⟩ | refine ⟨fun h => absurd h (by decide), fun _ => ?_⟩)
  refine mg_m_mono (hm) (by omega) ?_
  rintro o q G1 w
  obtain ⟨(⟨h0, rfl⟩ | ⟨h0, rfl⟩ | ⟨h0, rfl⟩), hq, hT1, hF1⟩ := cA_2 w hr
  · exact ⟨1, 0, rfl, ⟨by decide, by decide⟩, by decide, Or.inl rfl, wP9_0 h0 (by omega) hT1 hF1⟩
  · exact ⟨show 4 < 5 by decide, Or.inl rfl, wP9_x h0 (by decide) (by omega) hT1 hF1⟩
  · exact ⟨show 4 < 5 by decide, Or.inl rfl, wP9_x h0 (by decide) (by omega) hT1 hF1⟩
theorem w348 (d : Nat) (l_ : Int32) (hm : mg_m (mg_KM scr shO) (d + 820) 111 [.ref 0, .int l_] G (cA G (ex1 xI) S' a)) (hr : q1_ a.1) : mg_m (mg_KM scr shO) (d + 821) 348 [.ref 0, .int l_, .ref 169] G (wP9 G S' a) := by
  refine mg_me [] 60 my_348 ms_348 (Nat.le_of_ble_eq_true rfl) ?_
  repeat (first | refine ⟨_, mg_Fs rfl rfl, ?_⟩ | refine ⟨Or.inl rfl, ?_⟩ | refine ⟨Or.inr ⟨_, rfl⟩, ?_⟩ | refine ⟨fun _ => ?_, fun h => absurd h (by decide)⟩ | refine ⟨fun h => absurd h (by decide), fun _ => ?_⟩)
  refine mg_m_mono (hm) (by omega) ?_
  rintro o q G1 w
  obtain ⟨(⟨h0, rfl⟩ | ⟨h0, rfl⟩), hq, hT1, hF1⟩ := cA_1 w hr
  · exact ⟨1, 0, rfl, ⟨by decide, by decide⟩, by decide, Or.inl rfl, wP9_0 h0 (by omega) hT1 hF1⟩
  · exact ⟨show 3 < 4 by decide, Or.inl rfl, wP9_x h0 (by decide) (by omega) hT1 hF1⟩
theorem w349 (d : Nat) (f_ : Int32) (w_ : Int32) (hm : mg_m (mg_KM scr shO) (d + 820) 112 [.ref 0, .int f_, .int w_] G (cA G (ex2 xI xA) S' a)) (hr : q2_ a.1) : mg_m (mg_KM scr shO) (d + 821) 349 [.ref 0, .int f_, .int w_, .ref 169] G (wP9 G S' a) := by
  refine mg_me [] 60 my_349 ms_349 (Nat.le_of_ble_eq_true rfl) ?_
  repeat (first | refine ⟨_, mg_Fs rfl rfl, ?_⟩ | refine ⟨Or.inl rfl, ?_⟩ | refine ⟨Or.inr ⟨_, rfl⟩, ?_⟩ | refine ⟨fun _ => ?_, fun h => absurd h (by decide)⟩ | refine ⟨fun h => absurd h (by decide), fun _ => ?_⟩)
  refine mg_m_mono (hm) (by omega) ?_
  rintro o q G1 w
  obtain ⟨(⟨h0, rfl⟩ | ⟨h0, rfl⟩ | ⟨h0, rfl⟩), hq, hT1, hF1⟩ := cA_2 w hr
  · exact ⟨1, 0, rfl, ⟨by decide, by decide⟩, by decide, Or.inl rfl, wP9_0 h0 (by omega) hT1 hF1⟩
  · exact ⟨show 4 < 5 by decide, Or.inl rfl, wP9_x h0 (by decide) (by omega) hT1 hF1⟩
  · exact ⟨show 4 < 5 by decide, Or.inl rfl, wP9_x h0 (by decide) (by omega) hT1 hF1⟩
theorem w350 (d : Nat)  (hm : mg_m (mg_KM scr shO) (d + 820) 113 [.ref 0] G (cA G (ex1 xN) S' a)) (hr : q1_ a.1) : mg_m (mg_KM scr shO) (d + 821) 350 [.ref 0, .ref 169] G (wP9 G S' a) := by
  refine mg_me [] 60 my_350 ms_350 (Nat.le_of_ble_eq_true rfl) ?_
  repeat (first | refine ⟨_, mg_Fs rfl rfl, ?_⟩ | refine ⟨Or.inl rfl, ?_⟩ | refine ⟨Or.inr ⟨_, rfl⟩, ?_⟩ | refine ⟨fun _ => ?_, fun h => absurd h (by decide)⟩ | refine ⟨fun h => absurd h (by decide), fun _ => ?_⟩)
  refine mg_m_mono (hm) (by omega) ?_
  rintro o q G1 w
  obtain ⟨(⟨h0, rfl⟩ | ⟨h0, rfl⟩), hq, hT1, hF1⟩ := cA_1 w hr
  · exact ⟨1, 0, rfl, ⟨by decide, by decide⟩, by decide, Or.inl rfl, wP9_0 h0 (by omega) hT1 hF1⟩
  · exact ⟨show 2 < 3 by decide, Or.inl rfl, wP9_x h0 (by decide) (by omega) hT1 hF1⟩
theorem w351 (d : Nat) (k_ : Int32) (w_ : Int32) (hm : mg_m (mg_KM scr shO) (d + 820) 114 [.ref 0, .int k_, .int w_] G (cA G (ex2 xI xA) S' a)) (hr : q2_ a.1) : mg_m (mg_KM scr shO) (d + 821) 351 [.ref 0, .int k_, .int w_, .ref 169] G (wP9 G S' a) := by
  refine mg_me [] 60 my_351 ms_351 (Nat.le_of_ble_eq_true rfl) ?_
  repeat (first | refine ⟨_, mg_Fs rfl rfl, ?_⟩ | refine ⟨Or.inl rfl, ?_⟩ | refine ⟨Or.inr ⟨_, rfl⟩, ?_⟩ | refine ⟨fun _ => ?_, fun h => absurd h (by decide)⟩ | refine ⟨fun h => absurd h (by decide), fun _ => ?_⟩)
  refine mg_m_mono (hm) (by omega) ?_
  rintro o q G1 w
  obtain ⟨(⟨h0, rfl⟩ | ⟨h0, rfl⟩ | ⟨h0, rfl⟩), hq, hT1, hF1⟩ := cA_2 w hr
  · exact ⟨1, 0, rfl, ⟨by decide, by decide⟩, by decide, Or.inl rfl, wP9_0 h0 (by omega) hT1 hF1⟩
  · exact ⟨show 4 < 5 by decide, Or.inl rfl, wP9_x h0 (by decide) (by omega) hT1 hF1⟩
  · exact ⟨show 4 < 5 by decide, Or.inl rfl, wP9_x h0 (by decide) (by omega) hT1 hF1⟩
theorem w352 (d : Nat) (f_ : Int32) (x_ : Int32) (hm : mg_m (mg_KM scr shO) (d + 820) 115 [.ref 0, .int f_, .int x_] G (cA G (ex2 xI xA) S' a)) (hr : q2_ a.1) : mg_m (mg_KM scr shO) (d + 821) 352 [.ref 0, .int f_, .int x_, .ref 169] G (wP9 G S' a) := by
  refine mg_me [] 60 my_352 ms_352 (Nat.le_of_ble_eq_true rfl) ?_
  repeat (first | refine ⟨_, mg_Fs rfl rfl, ?_⟩ | refine ⟨Or.inl rfl, ?_⟩ | refine ⟨Or.inr ⟨_, rfl⟩, ?_⟩ | refine ⟨fun _ => ?_, fun h => absurd h (by decide)⟩ | refine ⟨fun h => absurd h (by decide), fun _ => ?_⟩)
  refine mg_m_mono (hm) (by omega) ?_
  rintro o q G1 w
  obtain ⟨(⟨h0, rfl⟩ | ⟨h0, rfl⟩ | ⟨h0, rfl⟩), hq, hT1, hF1⟩ := cA_2 w hr
  · exact ⟨1, 0, rfl, ⟨by decide, by decide⟩, by decide, Or.inl rfl, wP9_0 h0 (by omega) hT1 hF1⟩
  · exact ⟨show 4 < 5 by decide, Or.inl rfl, wP9_x h0 (by decide) (by omega) hT1 hF1⟩
  · exact ⟨show 4 < 5 by decide, Or.inl rfl, wP9_x h0 (by decide) (by omega) hT1 hF1⟩
theorem w353 (d : Nat) (f_ : Int32) (x_ : Int32) (hm : mg_m (mg_KM scr shO) (d + 820) 116 [.ref 0, .int f_, .int x_] G (cA G (ex2 xI xN) S' a)) (hr : q2_ a.1) : mg_m (mg_KM scr shO) (d + 821) 353 [.ref 0, .int f_, .int x_, .ref 169] G (wP9 G S' a) := by
  refine mg_me [] 60 my_353 ms_353 (Nat.le_of_ble_eq_true rfl) ?_
  repeat (first | refine ⟨_, mg_Fs rfl rfl, ?_⟩ | refine ⟨Or.inl rfl, ?_⟩ | refine ⟨Or.inr ⟨_, rfl⟩, ?_⟩ | refine ⟨fun _ => ?_, fun h => absurd h (by decide)⟩ | refine ⟨fun h => absurd h (by decide), fun _ => ?_⟩)
  refine mg_m_mono (hm) (by omega) ?_
  rintro o q G1 w
  obtain ⟨(⟨h0, rfl⟩ | ⟨h0, rfl⟩ | ⟨h0, rfl⟩), hq, hT1, hF1⟩ := cA_2 w hr
  · exact ⟨1, 0, rfl, ⟨by decide, by decide⟩, by decide, Or.inl rfl, wP9_0 h0 (by omega) hT1 hF1⟩
  · exact ⟨show 4 < 5 by decide, Or.inl rfl, wP9_x h0 (by decide) (by omega) hT1 hF1⟩
  · exact ⟨show 4 < 5 by decide, Or.inl rfl, wP9_x h0 (by decide) (by omega) hT1 hF1⟩
theorem w354 (d : Nat) (f_ : Int32) (hm : mg_m (mg_KM scr shO) (d + 820) 117 [.ref 0, .int f_] G (cA G (ex1 xI) S' a)) (hr : q1_ a.1) : mg_m (mg_KM scr shO) (d + 821) 354 [.ref 0, .int f_, .ref 169] G (wP9 G S' a) := by
  refine mg_me [] 60 my_354 ms_354 (Nat.le_of_ble_eq_true rfl) ?_
  repeat (first | refine ⟨_, mg_Fs rfl rfl, ?_⟩ | refine ⟨Or.inl rfl, ?_⟩ | refine ⟨Or.inr ⟨_, rfl⟩, ?_⟩ | refine ⟨fun _ => ?_, fun h => absurd h (by decide)⟩ | refine ⟨fun h => absurd h (by decide), fun _ => ?_⟩)
  refine mg_m_mono (hm) (by omega) ?_
  rintro o q G1 w
  obtain ⟨(⟨h0, rfl⟩ | ⟨h0, rfl⟩), hq, hT1, hF1⟩ := cA_1 w hr
  · exact ⟨1, 0, rfl, ⟨by decide, by decide⟩, by decide, Or.inl rfl, wP9_0 h0 (by omega) hT1 hF1⟩
  · exact ⟨show 3 < 4 by decide, Or.inl rfl, wP9_x h0 (by decide) (by omega) hT1 hF1⟩
theorem w355 (d : Nat) (f_ : Int32) (v_ : Int32) (hm : mg_m (mg_KM scr shO) (d + 820) 118 [.ref 0, .int f_, .int v_] G (cA G (ex1 xI) S' a)) (hr : q1_ a.1) : mg_m (mg_KM scr shO) (d + 821) 355 [.ref 0, .int f_, .int v_, .ref 169] G (wP9 G S' a) := by
  refine mg_me [] 60 my_355 ms_355 (Nat.le_of_ble_eq_true rfl) ?_
  repeat (first | refine ⟨_, mg_Fs rfl rfl, ?_⟩ | refine ⟨Or.inl rfl, ?_⟩ | refine ⟨Or.inr ⟨_, rfl⟩, ?_⟩ | refine ⟨fun _ => ?_, fun h => absurd h (by decide)⟩ | refine ⟨fun h => absurd h (by decide), fun _ => ?_⟩)
  refine mg_m_mono (hm) (by omega) ?_
  rintro o q G1 w
  obtain ⟨(⟨h0, rfl⟩ | ⟨h0, rfl⟩), hq, hT1, hF1⟩ := cA_1 w hr
  · exact ⟨1, 0, rfl, ⟨by decide, by decide⟩, by decide, Or.inl rfl, wP9_0 h0 (by omega) hT1 hF1⟩
  · exact ⟨show 4 < 5 by decide, Or.inl rfl, wP9_x h0 (by decide) (by omega) hT1 hF1⟩
theorem w356 (d : Nat) (f_ : Int32) (v_ : Int32) (hm : mg_m (mg_KM scr shO) (d + 820) 119 [.ref 0, .int f_, .int v_] G (cA G (ex1 xI) S' a)) (hr : q1_ a.1) : mg_m (mg_KM scr shO) (d + 821) 356 [.ref 0, .int f_, .int v_, .ref 169] G (wP9 G S' a) := by
  refine mg_me [] 60 my_356 ms_356 (Nat.le_of_ble_eq_true rfl) ?_
  repeat (first | refine ⟨_, mg_Fs rfl rfl, ?_⟩ | refine ⟨Or.inl rfl, ?_⟩ | refine ⟨Or.inr ⟨_, rfl⟩, ?_⟩ | refine ⟨fun _ => ?_, fun h => absurd h (by decide)⟩ | refine ⟨fun h => absurd h (by decide), fun _ => ?_⟩)
  refine mg_m_mono (hm) (by omega) ?_
  rintro o q G1 w
  obtain ⟨(⟨h0, rfl⟩ | ⟨h0, rfl⟩), hq, hT1, hF1⟩ := cA_1 w hr
  · exact ⟨1, 0, rfl, ⟨by decide, by decide⟩, by decide, Or.inl rfl, wP9_0 h0 (by omega) hT1 hF1⟩
  · exact ⟨show 4 < 5 by decide, Or.inl rfl, wP9_x h0 (by decide) (by omega) hT1 hF1⟩
theorem w357 (d : Nat) (f_ : Int32) (x_ : Int32) (hm : mg_m (mg_KM scr shO) (d + 820) 120 [.ref 0, .int f_, .int x_] G (cA G (ex2 xI xA) S' a)) (hr : q2_ a.1) : mg_m (mg_KM scr shO) (d + 821) 357 [.ref 0, .int f_, .int x_, .ref 169] G (wP9 G S' a) := by
  refine mg_me [] 60 my_357 ms_357 (Nat.le_of_ble_eq_true rfl) ?_
  repeat (first | refine ⟨_, mg_Fs rfl rfl, ?_⟩ | refine ⟨Or.inl rfl, ?_⟩ | refine ⟨Or.inr ⟨_, rfl⟩, ?_⟩ | refine ⟨fun _ => ?_, fun h => absurd h (by decide)⟩ | refine ⟨fun h => absurd h (by decide), fun _ => ?_⟩)
  refine mg_m_mono (hm) (by omega) ?_
  rintro o q G1 w
  obtain ⟨(⟨h0, rfl⟩ | ⟨h0, rfl⟩ | ⟨h0, rfl⟩), hq, hT1, hF1⟩ := cA_2 w hr
  · exact ⟨1, 0, rfl, ⟨by decide, by decide⟩, by decide, Or.inl rfl, wP9_0 h0 (by omega) hT1 hF1⟩
  · exact ⟨show 4 < 5 by decide, Or.inl rfl, wP9_x h0 (by decide) (by omega) hT1 hF1⟩
  · exact ⟨show 4 < 5 by decide, Or.inl rfl, wP9_x h0 (by decide) (by omega) hT1 hF1⟩
theorem w358 (d : Nat) (f_ : Int32) (x_ : Int32) (hm : mg_m (mg_KM scr shO) (d + 820) 121 [.ref 0, .int f_, .int x_] G (cA G (ex2 xI xA) S' a)) (hr : q2_ a.1) : mg_m (mg_KM scr shO) (d + 821) 358 [.ref 0, .int f_, .int x_, .ref 169] G (wP9 G S' a) := by
  refine mg_me [] 60 my_358 ms_358 (Nat.le_of_ble_eq_true rfl) ?_
  repeat (first | refine ⟨_, mg_Fs rfl rfl, ?_⟩ | refine ⟨Or.inl rfl, ?_⟩ | refine ⟨Or.inr ⟨_, rfl⟩, ?_⟩ | refine ⟨fun _ => ?_, fun h => absurd h (by decide)⟩ | refine ⟨fun h => absurd h (by decide), fun _ => ?_⟩)
  refine mg_m_mono (hm) (by omega) ?_
  rintro o q G1 w
  obtain ⟨(⟨h0, rfl⟩ | ⟨h0, rfl⟩ | ⟨h0, rfl⟩), hq, hT1, hF1⟩ := cA_2 w hr
  · exact ⟨1, 0, rfl, ⟨by decide, by decide⟩, by decide, Or.inl rfl, wP9_0 h0 (by omega) hT1 hF1⟩
  · exact ⟨show 4 < 5 by decide, Or.inl rfl, wP9_x h0 (by decide) (by omega) hT1 hF1⟩
  · exact ⟨show 4 < 5 by decide, Or.inl rfl, wP9_x h0 (by decide) (by omega) hT1 hF1⟩
theorem w359 (d : Nat) (f_ : Int32) (hm : mg_m (mg_KM scr shO) (d + 820) 122 [.ref 0, .int f_] G (cA G (ex1 xI) S' a)) (hr : q1_ a.1) : mg_m (mg_KM scr shO) (d + 821) 359 [.ref 0, .int f_, .ref 169] G (wP9 G S' a) := by
  refine mg_me [] 60 my_359 ms_359 (Nat.le_of_ble_eq_true rfl) ?_
  repeat (first | refine ⟨_, mg_Fs rfl rfl, ?_⟩ | refine ⟨Or.inl rfl, ?_⟩ | refine ⟨Or.inr ⟨_, rfl⟩, ?_⟩ | refine ⟨fun _ => ?_, fun h => absurd h (by decide)⟩ | refine ⟨fun h => absurd h (by decide), fun _ => ?_⟩)
  refine mg_m_mono (hm) (by omega) ?_
  rintro o q G1 w
  obtain ⟨(⟨h0, rfl⟩ | ⟨h0, rfl⟩), hq, hT1, hF1⟩ := cA_1 w hr
  · exact ⟨1, 0, rfl, ⟨by decide, by decide⟩, by decide, Or.inl rfl, wP9_0 h0 (by omega) hT1 hF1⟩
  · exact ⟨show 3 < 4 by decide, Or.inl rfl, wP9_x h0 (by decide) (by omega) hT1 hF1⟩
theorem w360 (d : Nat) (f_ : Int32) (hm : mg_m (mg_KM scr shO) (d + 820) 123 [.ref 0, .int f_] G (cA G (ex1 xI) S' a)) (hr : q1_ a.1) : mg_m (mg_KM scr shO) (d + 821) 360 [.ref 0, .int f_, .ref 169] G (wP9 G S' a) := by
  refine mg_me [] 60 my_360 ms_360 (Nat.le_of_ble_eq_true rfl) ?_
  repeat (first | refine ⟨_, mg_Fs rfl rfl, ?_⟩ | refine ⟨Or.inl rfl, ?_⟩ | refine ⟨Or.inr ⟨_, rfl⟩, ?_⟩ | refine ⟨fun _ => ?_, fun h => absurd h (by decide)⟩ | refine ⟨fun h => absurd h (by decide), fun _ => ?_⟩)
  refine mg_m_mono (hm) (by omega) ?_
  rintro o q G1 w
  obtain ⟨(⟨h0, rfl⟩ | ⟨h0, rfl⟩), hq, hT1, hF1⟩ := cA_1 w hr
  · exact ⟨1, 0, rfl, ⟨by decide, by decide⟩, by decide, Or.inl rfl, wP9_0 h0 (by omega) hT1 hF1⟩
  · exact ⟨show 3 < 4 by decide, Or.inl rfl, wP9_x h0 (by decide) (by omega) hT1 hF1⟩
theorem w361 (d : Nat) (f_ : Int32) (hm : mg_m (mg_KM scr shO) (d + 820) 124 [.ref 0, .int f_] G (cA G (ex2 xI xN) S' a)) (hr : q2_ a.1) : mg_m (mg_KM scr shO) (d + 821) 361 [.ref 0, .int f_, .ref 169] G (wP9 G S' a) := by
  refine mg_me [] 60 my_361 ms_361 (Nat.le_of_ble_eq_true rfl) ?_
  repeat (first | refine ⟨_, mg_Fs rfl rfl, ?_⟩ | refine ⟨Or.inl rfl, ?_⟩ | refine ⟨Or.inr ⟨_, rfl⟩, ?_⟩ | refine ⟨fun _ => ?_, fun h => absurd h (by decide)⟩ | refine ⟨fun h => absurd h (by decide), fun _ => ?_⟩)
  refine mg_m_mono (hm) (by omega) ?_
  rintro o q G1 w
  obtain ⟨(⟨h0, rfl⟩ | ⟨h0, rfl⟩ | ⟨h0, rfl⟩), hq, hT1, hF1⟩ := cA_2 w hr
  · exact ⟨1, 0, rfl, ⟨by decide, by decide⟩, by decide, Or.inl rfl, wP9_0 h0 (by omega) hT1 hF1⟩
  · exact ⟨show 3 < 4 by decide, Or.inl rfl, wP9_x h0 (by decide) (by omega) hT1 hF1⟩
  · exact ⟨show 3 < 4 by decide, Or.inl rfl, wP9_x h0 (by decide) (by omega) hT1 hF1⟩
theorem w362 {a : Int32 × UInt64} (d : Nat) (f_ : Int32) (hm : mg_m (mg_KM scr shO) (d + 820) 125 [.ref 0, .int f_] G (cAd G (ex1 xI) S' a)) (hr : q1_ a.1) : mg_m (mg_KM scr shO) (d + 821) 362 [.ref 0, .int f_, .ref 170] G (wD9 G S' a) := by
  refine mg_me [] 60 my_362 ms_362 (Nat.le_of_ble_eq_true rfl) ?_
  repeat (first | refine ⟨_, mg_Fs rfl rfl, ?_⟩ | refine ⟨Or.inl rfl, ?_⟩ | refine ⟨Or.inr ⟨_, rfl⟩, ?_⟩ | refine ⟨fun _ => ?_, fun h => absurd h (by decide)⟩ | refine ⟨fun h => absurd h (by decide), fun _ => ?_⟩)
  refine mg_m_mono (hm) (by omega) ?_
  rintro o q G1 w
  obtain ⟨(⟨h0, rfl⟩ | ⟨h0, rfl⟩), hq, hT1, hF1⟩ := cAd_1 w hr
  · refine ⟨1, 0, rfl, ⟨by decide, by decide⟩, by decide, Or.inl rfl, ?_⟩
    have f2 : mg_fr (fun b => b = 170) G1 (G1.1, G1.2.1, mg_u2 G1.2.2.1 170 0 a.2, G1.2.2.2) := fun b hb => ⟨rfl, rfl, mg_u2_ne _ _ _ hb, rfl, rfl⟩
    exact ⟨by rw [h0]; rfl, by omega, hT1.hi (f2.mono (fun b hb => by omega)), (hF1.mono (fun b hb => Or.inl hb)).tr (f2.mono (fun b hb => Or.inr (Or.inr hb))), fun _ => by show mg_u2 G1.2.2.1 170 0 a.2 170 0 = a.2; rw [mg_u2_at, if_pos ⟨rfl, rfl⟩]⟩
  · exact ⟨show 3 < 4 by decide, Or.inl rfl, wD9_x h0 (by decide) (by omega) hT1 hF1⟩
theorem w363 (d : Nat) (f_ : Int32) (g_ : Int32) (hm : mg_m (mg_KM scr shO) (d + 820) 126 [.ref 0, .int f_, .int g_] G (cA G (ex1 xI) S' a)) (hr : q1_ a.1) : mg_m (mg_KM scr shO) (d + 821) 363 [.ref 0, .int f_, .int g_, .ref 169] G (wB9 G S' a) := by
  refine mg_me [] 60 my_363 ms_363 (Nat.le_of_ble_eq_true rfl) ?_
  repeat (first | refine ⟨_, mg_Fs rfl rfl, ?_⟩ | refine ⟨Or.inl rfl, ?_⟩ | refine ⟨Or.inr ⟨_, rfl⟩, ?_⟩ | refine ⟨fun _ => ?_, fun h => absurd h (by decide)⟩ | refine ⟨fun h => absurd h (by decide), fun _ => ?_⟩)
  refine mg_m_mono (hm) (by omega) ?_
  rintro o q G1 w
  obtain ⟨(⟨h0, rfl⟩ | ⟨h0, rfl⟩), hq, hT1, hF1⟩ := cA_1 w hr
  · refine ⟨fun z => ⟨1, 0, rfl, ⟨by decide, by decide⟩, by decide, Or.inl rfl, wB9_0 h0 (if_pos z).symm (by omega) hT1 hF1⟩, fun z => ⟨1, 0, rfl, ⟨by decide, by decide⟩, by decide, Or.inl rfl, wB9_0 h0 (if_neg z).symm (by omega) hT1 hF1⟩⟩
  · exact ⟨show 4 < 5 by decide, Or.inl rfl, wB9_x h0 (by decide) (by omega) hT1 hF1⟩
theorem w364 (d : Nat) (f_ : Int32) (g_ : Int32) (hm : mg_m (mg_KM scr shO) (d + 820) 127 [.ref 0, .int f_, .int g_] G (cA G (ex1 xI) S' a)) (hr : q1_ a.1) : mg_m (mg_KM scr shO) (d + 821) 364 [.ref 0, .int f_, .int g_, .ref 169] G (wB9 G S' a) := by
  refine mg_me [] 60 my_364 ms_364 (Nat.le_of_ble_eq_true rfl) ?_
  repeat (first | refine ⟨_, mg_Fs rfl rfl, ?_⟩ | refine ⟨Or.inl rfl, ?_⟩ | refine ⟨Or.inr ⟨_, rfl⟩, ?_⟩ | refine ⟨fun _ => ?_, fun h => absurd h (by decide)⟩ | refine ⟨fun h => absurd h (by decide), fun _ => ?_⟩)
  refine mg_m_mono (hm) (by omega) ?_
  rintro o q G1 w
  obtain ⟨(⟨h0, rfl⟩ | ⟨h0, rfl⟩), hq, hT1, hF1⟩ := cA_1 w hr
  · refine ⟨fun z => ⟨1, 0, rfl, ⟨by decide, by decide⟩, by decide, Or.inl rfl, wB9_0 h0 (if_pos z).symm (by omega) hT1 hF1⟩, fun z => ⟨1, 0, rfl, ⟨by decide, by decide⟩, by decide, Or.inl rfl, wB9_0 h0 (if_neg z).symm (by omega) hT1 hF1⟩⟩
  · exact ⟨show 4 < 5 by decide, Or.inl rfl, wB9_x h0 (by decide) (by omega) hT1 hF1⟩
theorem w365 (d : Nat) (f_ : Int32) (g_ : Int32) (hm : mg_m (mg_KM scr shO) (d + 820) 128 [.ref 0, .int f_, .int g_] G (cA G (ex1 xI) S' a)) (hr : q1_ a.1) : mg_m (mg_KM scr shO) (d + 821) 365 [.ref 0, .int f_, .int g_, .ref 169] G (wP9 G S' a) := by
  refine mg_me [] 60 my_365 ms_365 (Nat.le_of_ble_eq_true rfl) ?_
  repeat (first | refine ⟨_, mg_Fs rfl rfl, ?_⟩ | refine ⟨Or.inl rfl, ?_⟩ | refine ⟨Or.inr ⟨_, rfl⟩, ?_⟩ | refine ⟨fun _ => ?_, fun h => absurd h (by decide)⟩ | refine ⟨fun h => absurd h (by decide), fun _ => ?_⟩)
  refine mg_m_mono (hm) (by omega) ?_
  rintro o q G1 w
  obtain ⟨(⟨h0, rfl⟩ | ⟨h0, rfl⟩), hq, hT1, hF1⟩ := cA_1 w hr
  · exact ⟨1, 0, rfl, ⟨by decide, by decide⟩, by decide, Or.inl rfl, wP9_0 h0 (by omega) hT1 hF1⟩
  · exact ⟨show 4 < 5 by decide, Or.inl rfl, wP9_x h0 (by decide) (by omega) hT1 hF1⟩
theorem w366 (d : Nat) (f_ : Int32) (hm : mg_m (mg_KM scr shO) (d + 820) 129 [.ref 0, .int f_] G (cA G (ex1 xI) S' a)) (hr : q1_ a.1) : mg_m (mg_KM scr shO) (d + 821) 366 [.ref 0, .int f_, .ref 169] G (wP9 G S' a) := by
  refine mg_me [] 60 my_366 ms_366 (Nat.le_of_ble_eq_true rfl) ?_
  repeat (first | refine ⟨_, mg_Fs rfl rfl, ?_⟩ | refine ⟨Or.inl rfl, ?_⟩ | refine ⟨Or.inr ⟨_, rfl⟩, ?_⟩ | refine ⟨fun _ => ?_, fun h => absurd h (by decide)⟩ | refine ⟨fun h => absurd h (by decide), fun _ => ?_⟩)
  refine mg_m_mono (hm) (by omega) ?_
  rintro o q G1 w
  obtain ⟨(⟨h0, rfl⟩ | ⟨h0, rfl⟩), hq, hT1, hF1⟩ := cA_1 w hr
  · exact ⟨1, 0, rfl, ⟨by decide, by decide⟩, by decide, Or.inl rfl, wP9_0 h0 (by omega) hT1 hF1⟩
  · exact ⟨show 3 < 4 by decide, Or.inl rfl, wP9_x h0 (by decide) (by omega) hT1 hF1⟩
theorem w367 (d : Nat) (f_ : Int32) (g_ : Int32) (hm : mg_m (mg_KM scr shO) (d + 820) 130 [.ref 0, .int f_, .int g_] G (cA G (ex1 xI) S' a)) (hr : q1_ a.1) : mg_m (mg_KM scr shO) (d + 821) 367 [.ref 0, .int f_, .int g_, .ref 169] G (wP9 G S' a) := by
  refine mg_me [] 60 my_367 ms_367 (Nat.le_of_ble_eq_true rfl) ?_
  repeat (first | refine ⟨_, mg_Fs rfl rfl, ?_⟩ | refine ⟨Or.inl rfl, ?_⟩ | refine ⟨Or.inr ⟨_, rfl⟩, ?_⟩ | refine ⟨fun _ => ?_, fun h => absurd h (by decide)⟩ | refine ⟨fun h => absurd h (by decide), fun _ => ?_⟩)
  refine mg_m_mono (hm) (by omega) ?_
  rintro o q G1 w
  obtain ⟨(⟨h0, rfl⟩ | ⟨h0, rfl⟩), hq, hT1, hF1⟩ := cA_1 w hr
  · exact ⟨1, 0, rfl, ⟨by decide, by decide⟩, by decide, Or.inl rfl, wP9_0 h0 (by omega) hT1 hF1⟩
  · exact ⟨show 4 < 5 by decide, Or.inl rfl, wP9_x h0 (by decide) (by omega) hT1 hF1⟩
theorem w368 (d : Nat) (f_ : Int32) (g_ : Int32) (hm : mg_m (mg_KM scr shO) (d + 820) 131 [.ref 0, .int f_, .int g_] G (cA G (ex1 xI) S' a)) (hr : q1_ a.1) : mg_m (mg_KM scr shO) (d + 821) 368 [.ref 0, .int f_, .int g_, .ref 169] G (wP9 G S' a) := by
  refine mg_me [] 60 my_368 ms_368 (Nat.le_of_ble_eq_true rfl) ?_
  repeat (first | refine ⟨_, mg_Fs rfl rfl, ?_⟩ | refine ⟨Or.inl rfl, ?_⟩ | refine ⟨Or.inr ⟨_, rfl⟩, ?_⟩ | refine ⟨fun _ => ?_, fun h => absurd h (by decide)⟩ | refine ⟨fun h => absurd h (by decide), fun _ => ?_⟩)
  refine mg_m_mono (hm) (by omega) ?_
  rintro o q G1 w
  obtain ⟨(⟨h0, rfl⟩ | ⟨h0, rfl⟩), hq, hT1, hF1⟩ := cA_1 w hr
  · exact ⟨1, 0, rfl, ⟨by decide, by decide⟩, by decide, Or.inl rfl, wP9_0 h0 (by omega) hT1 hF1⟩
  · exact ⟨show 4 < 5 by decide, Or.inl rfl, wP9_x h0 (by decide) (by omega) hT1 hF1⟩
theorem w369 (d : Nat) (op_ : Int32) (f_ : Int32) (g_ : Int32) (hm : mg_m (mg_KM scr shO) (d + 820) 132 [.ref 0, .int op_, .int f_, .int g_] G (cA G (ex2 xI xA) S' a)) (hr : q2_ a.1) : mg_m (mg_KM scr shO) (d + 821) 369 [.ref 0, .int op_, .int f_, .int g_, .ref 169] G (wP9 G S' a) := by
  refine mg_me [] 60 my_369 ms_369 (Nat.le_of_ble_eq_true rfl) ?_
  repeat (first | refine ⟨_, mg_Fs rfl rfl, ?_⟩ | refine ⟨Or.inl rfl, ?_⟩ | refine ⟨Or.inr ⟨_, rfl⟩, ?_⟩ | refine ⟨fun _ => ?_, fun h => absurd h (by decide)⟩ | refine ⟨fun h => absurd h (by decide), fun _ => ?_⟩)
  refine mg_m_mono (hm) (by omega) ?_
  rintro o q G1 w
  obtain ⟨(⟨h0, rfl⟩ | ⟨h0, rfl⟩ | ⟨h0, rfl⟩), hq, hT1, hF1⟩ := cA_2 w hr
  · exact ⟨1, 0, rfl, ⟨by decide, by decide⟩, by decide, Or.inl rfl, wP9_0 h0 (by omega) hT1 hF1⟩
  · exact ⟨show 5 < 6 by decide, Or.inl rfl, wP9_x h0 (by decide) (by omega) hT1 hF1⟩
  · exact ⟨show 5 < 6 by decide, Or.inl rfl, wP9_x h0 (by decide) (by omega) hT1 hF1⟩
theorem w370 (d : Nat) (v_ : Int32) (l_ : Int32) (hm : mg_m (mg_KM scr shO) (d + 820) 133 [.ref 0, .int v_, .int l_] G (cA G (ex1 xI) S' a)) (hr : q1_ a.1) : mg_m (mg_KM scr shO) (d + 821) 370 [.ref 0, .int v_, .int l_, .ref 169] G (wP9 G S' a) := by
  refine mg_me [] 60 my_370 ms_370 (Nat.le_of_ble_eq_true rfl) ?_
  repeat (first | refine ⟨_, mg_Fs rfl rfl, ?_⟩ | refine ⟨Or.inl rfl, ?_⟩ | refine ⟨Or.inr ⟨_, rfl⟩, ?_⟩ | refine ⟨fun _ => ?_, fun h => absurd h (by decide)⟩ | refine ⟨fun h => absurd h (by decide), fun _ => ?_⟩)
  refine mg_m_mono (hm) (by omega) ?_
  rintro o q G1 w
  obtain ⟨(⟨h0, rfl⟩ | ⟨h0, rfl⟩), hq, hT1, hF1⟩ := cA_1 w hr
  · exact ⟨1, 0, rfl, ⟨by decide, by decide⟩, by decide, Or.inl rfl, wP9_0 h0 (by omega) hT1 hF1⟩
  · exact ⟨show 4 < 5 by decide, Or.inl rfl, wP9_x h0 (by decide) (by omega) hT1 hF1⟩
theorem w371 (d : Nat) (v_ : Int32) (hm : mg_m (mg_KM scr shO) (d + 820) 134 [.ref 0, .int v_] G (cA G (ex1 xI) S' a)) (hr : q1_ a.1) : mg_m (mg_KM scr shO) (d + 821) 371 [.ref 0, .int v_, .ref 169] G (wP9 G S' a) := by
  refine mg_me [] 60 my_371 ms_371 (Nat.le_of_ble_eq_true rfl) ?_
  repeat (first | refine ⟨_, mg_Fs rfl rfl, ?_⟩ | refine ⟨Or.inl rfl, ?_⟩ | refine ⟨Or.inr ⟨_, rfl⟩, ?_⟩ | refine ⟨fun _ => ?_, fun h => absurd h (by decide)⟩ | refine ⟨fun h => absurd h (by decide), fun _ => ?_⟩)
  refine mg_m_mono (hm) (by omega) ?_
  rintro o q G1 w
  obtain ⟨(⟨h0, rfl⟩ | ⟨h0, rfl⟩), hq, hT1, hF1⟩ := cA_1 w hr
  · exact ⟨1, 0, rfl, ⟨by decide, by decide⟩, by decide, Or.inl rfl, wP9_0 h0 (by omega) hT1 hF1⟩
  · exact ⟨show 3 < 4 by decide, Or.inl rfl, wP9_x h0 (by decide) (by omega) hT1 hF1⟩
theorem w372 (d : Nat) (l_ : Int32) (hm : mg_m (mg_KM scr shO) (d + 820) 135 [.ref 0, .int l_] G (cA G (ex1 xI) S' a)) (hr : q1_ a.1) : mg_m (mg_KM scr shO) (d + 821) 372 [.ref 0, .int l_, .ref 169] G (wP9 G S' a) := by
  refine mg_me [] 60 my_372 ms_372 (Nat.le_of_ble_eq_true rfl) ?_
  repeat (first | refine ⟨_, mg_Fs rfl rfl, ?_⟩ | refine ⟨Or.inl rfl, ?_⟩ | refine ⟨Or.inr ⟨_, rfl⟩, ?_⟩ | refine ⟨fun _ => ?_, fun h => absurd h (by decide)⟩ | refine ⟨fun h => absurd h (by decide), fun _ => ?_⟩)
  refine mg_m_mono (hm) (by omega) ?_
  rintro o q G1 w
  obtain ⟨(⟨h0, rfl⟩ | ⟨h0, rfl⟩), hq, hT1, hF1⟩ := cA_1 w hr
  · exact ⟨1, 0, rfl, ⟨by decide, by decide⟩, by decide, Or.inl rfl, wP9_0 h0 (by omega) hT1 hF1⟩
  · exact ⟨show 3 < 4 by decide, Or.inl rfl, wP9_x h0 (by decide) (by omega) hT1 hF1⟩
theorem w373 (d : Nat) (op_ : Int32) (f_ : Int32) (g_ : Int32) (hm : mg_m (mg_KM scr shO) (d + 820) 136 [.ref 0, .int op_, .int f_, .int g_] G (cA G (ex3 xI xA xS) S' a)) (hr : q3_ a.1) : mg_m (mg_KM scr shO) (d + 821) 373 [.ref 0, .int op_, .int f_, .int g_, .ref 169] G (wP9 G S' a) := by
  refine mg_me [] 60 my_373 ms_373 (Nat.le_of_ble_eq_true rfl) ?_
  repeat (first | refine ⟨_, mg_Fs rfl rfl, ?_⟩ | refine ⟨Or.inl rfl, ?_⟩ | refine ⟨Or.inr ⟨_, rfl⟩, ?_⟩ | refine ⟨fun _ => ?_, fun h => absurd h (by decide)⟩ | refine ⟨fun h => absurd h (by decide), fun _ => ?_⟩)
  refine mg_m_mono (hm) (by omega) ?_
  rintro o q G1 w
  obtain ⟨(⟨h0, rfl⟩ | ⟨h0, rfl⟩ | ⟨h0, rfl⟩ | ⟨h0, rfl⟩), hq, hT1, hF1⟩ := cA_3 w hr
  · exact ⟨1, 0, rfl, ⟨by decide, by decide⟩, by decide, Or.inl rfl, wP9_0 h0 (by omega) hT1 hF1⟩
  · exact ⟨show 5 < 6 by decide, Or.inl rfl, wP9_x h0 (by decide) (by omega) hT1 hF1⟩
  · exact ⟨show 5 < 6 by decide, Or.inl rfl, wP9_x h0 (by decide) (by omega) hT1 hF1⟩
  · exact ⟨show 5 < 6 by decide, Or.inl rfl, wP9_x h0 (by decide) (by omega) hT1 hF1⟩
theorem w374 (d : Nat) (f_ : Int32) (g_ : Int32) (h_ : Int32) (hm : mg_m (mg_KM scr shO) (d + 820) 137 [.ref 0, .int f_, .int g_, .int h_] G (cA G (ex2 xI xS) S' a)) (hr : q2_ a.1) : mg_m (mg_KM scr shO) (d + 821) 374 [.ref 0, .int f_, .int g_, .int h_, .ref 169] G (wP9 G S' a) := by
  refine mg_me [] 60 my_374 ms_374 (Nat.le_of_ble_eq_true rfl) ?_
  repeat (first | refine ⟨_, mg_Fs rfl rfl, ?_⟩ | refine ⟨Or.inl rfl, ?_⟩ | refine ⟨Or.inr ⟨_, rfl⟩, ?_⟩ | refine ⟨fun _ => ?_, fun h => absurd h (by decide)⟩ | refine ⟨fun h => absurd h (by decide), fun _ => ?_⟩)
  refine mg_m_mono (hm) (by omega) ?_
  rintro o q G1 w
  obtain ⟨(⟨h0, rfl⟩ | ⟨h0, rfl⟩ | ⟨h0, rfl⟩), hq, hT1, hF1⟩ := cA_2 w hr
  · exact ⟨1, 0, rfl, ⟨by decide, by decide⟩, by decide, Or.inl rfl, wP9_0 h0 (by omega) hT1 hF1⟩
  · exact ⟨show 5 < 6 by decide, Or.inl rfl, wP9_x h0 (by decide) (by omega) hT1 hF1⟩
  · exact ⟨show 5 < 6 by decide, Or.inl rfl, wP9_x h0 (by decide) (by omega) hT1 hF1⟩
theorem w375 (d : Nat) (f_ : Int32) (hm : mg_m (mg_KM scr shO) (d + 820) 138 [.ref 0, .int f_] G (cA G (ex2 xI xS) S' a)) (hr : q2_ a.1) : mg_m (mg_KM scr shO) (d + 821) 375 [.ref 0, .int f_, .ref 169] G (wP9 G S' a) := by
  refine mg_me [] 60 my_375 ms_375 (Nat.le_of_ble_eq_true rfl) ?_
  repeat (first | refine ⟨_, mg_Fs rfl rfl, ?_⟩ | refine ⟨Or.inl rfl, ?_⟩ | refine ⟨Or.inr ⟨_, rfl⟩, ?_⟩ | refine ⟨fun _ => ?_, fun h => absurd h (by decide)⟩ | refine ⟨fun h => absurd h (by decide), fun _ => ?_⟩)
  refine mg_m_mono (hm) (by omega) ?_
  rintro o q G1 w
  obtain ⟨(⟨h0, rfl⟩ | ⟨h0, rfl⟩ | ⟨h0, rfl⟩), hq, hT1, hF1⟩ := cA_2 w hr
  · exact ⟨1, 0, rfl, ⟨by decide, by decide⟩, by decide, Or.inl rfl, wP9_0 h0 (by omega) hT1 hF1⟩
  · exact ⟨show 3 < 4 by decide, Or.inl rfl, wP9_x h0 (by decide) (by omega) hT1 hF1⟩
  · exact ⟨show 3 < 4 by decide, Or.inl rfl, wP9_x h0 (by decide) (by omega) hT1 hF1⟩
theorem w376 (d : Nat) (f_ : Int32) (v_ : Int32) (b_ : Bool) (hm : mg_m (mg_KM scr shO) (d + 820) 139 [.ref 0, .int f_, .int v_, .int (if b_ then 1 else 0)] G (cA G (ex2 xI xS) S' a)) (hr : q2_ a.1) : mg_m (mg_KM scr shO) (d + 821) 376 [.ref 0, .int f_, .int v_, .int (if b_ then 1 else 0), .ref 169] G (wP9 G S' a) := by
  refine mg_me [] 60 my_376 ms_376 (Nat.le_of_ble_eq_true rfl) ?_
  repeat (first | refine ⟨_, mg_Fs rfl rfl, ?_⟩ | refine ⟨Or.inl rfl, ?_⟩ | refine ⟨Or.inr ⟨_, rfl⟩, ?_⟩ | refine ⟨fun _ => ?_, fun h => absurd h (by decide)⟩ | refine ⟨fun h => absurd h (by decide), fun _ => ?_⟩)
  refine mg_m_mono (hm) (by omega) ?_
  rintro o q G1 w
  obtain ⟨(⟨h0, rfl⟩ | ⟨h0, rfl⟩ | ⟨h0, rfl⟩), hq, hT1, hF1⟩ := cA_2 w hr
  · exact ⟨1, 0, rfl, ⟨by decide, by decide⟩, by decide, Or.inl rfl, wP9_0 h0 (by omega) hT1 hF1⟩
  · exact ⟨show 5 < 6 by decide, Or.inl rfl, wP9_x h0 (by decide) (by omega) hT1 hF1⟩
  · exact ⟨show 5 < 6 by decide, Or.inl rfl, wP9_x h0 (by decide) (by omega) hT1 hF1⟩
theorem w377 (d : Nat) (f_ : Int32) (v_ : Int32) (b_ : Bool) (hm : mg_m (mg_KM scr shO) (d + 820) 140 [.ref 0, .int f_, .int v_, .int (if b_ then 1 else 0)] G (cA G (ex2 xI xS) S' a)) (hr : q2_ a.1) : mg_m (mg_KM scr shO) (d + 821) 377 [.ref 0, .int f_, .int v_, .int (if b_ then 1 else 0), .ref 169] G (wP9 G S' a) := by
  refine mg_me [] 60 my_377 ms_377 (Nat.le_of_ble_eq_true rfl) ?_
  repeat (first | refine ⟨_, mg_Fs rfl rfl, ?_⟩ | refine ⟨Or.inl rfl, ?_⟩ | refine ⟨Or.inr ⟨_, rfl⟩, ?_⟩ | refine ⟨fun _ => ?_, fun h => absurd h (by decide)⟩ | refine ⟨fun h => absurd h (by decide), fun _ => ?_⟩)
  refine mg_m_mono (hm) (by omega) ?_
  rintro o q G1 w
  obtain ⟨(⟨h0, rfl⟩ | ⟨h0, rfl⟩ | ⟨h0, rfl⟩), hq, hT1, hF1⟩ := cA_2 w hr
  · exact ⟨1, 0, rfl, ⟨by decide, by decide⟩, by decide, Or.inl rfl, wP9_0 h0 (by omega) hT1 hF1⟩
  · exact ⟨show 5 < 6 by decide, Or.inl rfl, wP9_x h0 (by decide) (by omega) hT1 hF1⟩
  · exact ⟨show 5 < 6 by decide, Or.inl rfl, wP9_x h0 (by decide) (by omega) hT1 hF1⟩
theorem w378 (d : Nat) (f_ : Int32) (v_ : Int32) (g_ : Int32) (hm : mg_m (mg_KM scr shO) (d + 820) 141 [.ref 0, .int f_, .int v_, .int g_] G (cA G (ex2 xI xS) S' a)) (hr : q2_ a.1) : mg_m (mg_KM scr shO) (d + 821) 378 [.ref 0, .int f_, .int v_, .int g_, .ref 169] G (wP9 G S' a) := by
  refine mg_me [] 60 my_378 ms_378 (Nat.le_of_ble_eq_true rfl) ?_
  repeat (first | refine ⟨_, mg_Fs rfl rfl, ?_⟩ | refine ⟨Or.inl rfl, ?_⟩ | refine ⟨Or.inr ⟨_, rfl⟩, ?_⟩ | refine ⟨fun _ => ?_, fun h => absurd h (by decide)⟩ | refine ⟨fun h => absurd h (by decide), fun _ => ?_⟩)
  refine mg_m_mono (hm) (by omega) ?_
  rintro o q G1 w
  obtain ⟨(⟨h0, rfl⟩ | ⟨h0, rfl⟩ | ⟨h0, rfl⟩), hq, hT1, hF1⟩ := cA_2 w hr
  · exact ⟨1, 0, rfl, ⟨by decide, by decide⟩, by decide, Or.inl rfl, wP9_0 h0 (by omega) hT1 hF1⟩
  · exact ⟨show 5 < 6 by decide, Or.inl rfl, wP9_x h0 (by decide) (by omega) hT1 hF1⟩
  · exact ⟨show 5 < 6 by decide, Or.inl rfl, wP9_x h0 (by decide) (by omega) hT1 hF1⟩
theorem w379 (d : Nat) (f_ : Int32) (hm : mg_m (mg_KM scr shO) (d + 820) 142 [.ref 0, .int f_] G (cA G (ex1 xI) S' a)) (hr : q1_ a.1) : mg_m (mg_KM scr shO) (d + 821) 379 [.ref 0, .int f_, .ref 169] G (wP9 G S' a) := by
  refine mg_me [] 60 my_379 ms_379 (Nat.le_of_ble_eq_true rfl) ?_
  repeat (first | refine ⟨_, mg_Fs rfl rfl, ?_⟩ | refine ⟨Or.inl rfl, ?_⟩ | refine ⟨Or.inr ⟨_, rfl⟩, ?_⟩ | refine ⟨fun _ => ?_, fun h => absurd h (by decide)⟩ | refine ⟨fun h => absurd h (by decide), fun _ => ?_⟩)
  refine mg_m_mono (hm) (by omega) ?_
  rintro o q G1 w
  obtain ⟨(⟨h0, rfl⟩ | ⟨h0, rfl⟩), hq, hT1, hF1⟩ := cA_1 w hr
  · exact ⟨1, 0, rfl, ⟨by decide, by decide⟩, by decide, Or.inl rfl, wP9_0 h0 (by omega) hT1 hF1⟩
  · exact ⟨show 3 < 4 by decide, Or.inl rfl, wP9_x h0 (by decide) (by omega) hT1 hF1⟩
theorem w380 (d : Nat) (l_ : Int32) (hm : mg_m (mg_KM scr shO) (d + 820) 143 [.ref 0, .int l_] G (cA G (ex1 xI) S' a)) (hr : q1_ a.1) : mg_m (mg_KM scr shO) (d + 821) 380 [.ref 0, .int l_, .ref 169] G (wP9 G S' a) := by
  refine mg_me [] 60 my_380 ms_380 (Nat.le_of_ble_eq_true rfl) ?_
  repeat (first | refine ⟨_, mg_Fs rfl rfl, ?_⟩ | refine ⟨Or.inl rfl, ?_⟩ | refine ⟨Or.inr ⟨_, rfl⟩, ?_⟩ | refine ⟨fun _ => ?_, fun h => absurd h (by decide)⟩ | refine ⟨fun h => absurd h (by decide), fun _ => ?_⟩)
  refine mg_m_mono (hm) (by omega) ?_
  rintro o q G1 w
  obtain ⟨(⟨h0, rfl⟩ | ⟨h0, rfl⟩), hq, hT1, hF1⟩ := cA_1 w hr
  · exact ⟨1, 0, rfl, ⟨by decide, by decide⟩, by decide, Or.inl rfl, wP9_0 h0 (by omega) hT1 hF1⟩
  · exact ⟨show 3 < 4 by decide, Or.inl rfl, wP9_x h0 (by decide) (by omega) hT1 hF1⟩
theorem w381 (d : Nat) (v_ : Int32) (l_ : Int32) (hm : mg_m (mg_KM scr shO) (d + 820) 144 [.ref 0, .int v_, .int l_] G (cA G (ex1 xI) S' a)) (hr : q1_ a.1) : mg_m (mg_KM scr shO) (d + 821) 381 [.ref 0, .int v_, .int l_, .ref 169] G (wP9 G S' a) := by
  refine mg_me [] 60 my_381 ms_381 (Nat.le_of_ble_eq_true rfl) ?_
  repeat (first | refine ⟨_, mg_Fs rfl rfl, ?_⟩ | refine ⟨Or.inl rfl, ?_⟩ | refine ⟨Or.inr ⟨_, rfl⟩, ?_⟩ | refine ⟨fun _ => ?_, fun h => absurd h (by decide)⟩ | refine ⟨fun h => absurd h (by decide), fun _ => ?_⟩)
  refine mg_m_mono (hm) (by omega) ?_
  rintro o q G1 w
  obtain ⟨(⟨h0, rfl⟩ | ⟨h0, rfl⟩), hq, hT1, hF1⟩ := cA_1 w hr
  · exact ⟨1, 0, rfl, ⟨by decide, by decide⟩, by decide, Or.inl rfl, wP9_0 h0 (by omega) hT1 hF1⟩
  · exact ⟨show 4 < 5 by decide, Or.inl rfl, wP9_x h0 (by decide) (by omega) hT1 hF1⟩
theorem w382 (d : Nat) (v_ : Int32) (hm : mg_m (mg_KM scr shO) (d + 820) 145 [.ref 0, .int v_] G (cA G (ex1 xI) S' a)) (hr : q1_ a.1) : mg_m (mg_KM scr shO) (d + 821) 382 [.ref 0, .int v_, .ref 169] G (wP9 G S' a) := by
  refine mg_me [] 60 my_382 ms_382 (Nat.le_of_ble_eq_true rfl) ?_
  repeat (first | refine ⟨_, mg_Fs rfl rfl, ?_⟩ | refine ⟨Or.inl rfl, ?_⟩ | refine ⟨Or.inr ⟨_, rfl⟩, ?_⟩ | refine ⟨fun _ => ?_, fun h => absurd h (by decide)⟩ | refine ⟨fun h => absurd h (by decide), fun _ => ?_⟩)
  refine mg_m_mono (hm) (by omega) ?_
  rintro o q G1 w
  obtain ⟨(⟨h0, rfl⟩ | ⟨h0, rfl⟩), hq, hT1, hF1⟩ := cA_1 w hr
  · exact ⟨1, 0, rfl, ⟨by decide, by decide⟩, by decide, Or.inl rfl, wP9_0 h0 (by omega) hT1 hF1⟩
  · exact ⟨show 3 < 4 by decide, Or.inl rfl, wP9_x h0 (by decide) (by omega) hT1 hF1⟩
theorem w383 (d : Nat) (v_ : Int32) (c_ : Int32) (hm : mg_m (mg_KM scr shO) (d + 820) 147 [.ref 0, .int v_, .int c_] G (cA G (ex2 xI xA) S' a)) (hr : q2_ a.1) : mg_m (mg_KM scr shO) (d + 821) 383 [.ref 0, .int v_, .int c_, .ref 169] G (wP9 G S' a) := by
  refine mg_me [] 60 my_383 ms_383 (Nat.le_of_ble_eq_true rfl) ?_
  repeat (first | refine ⟨_, mg_Fs rfl rfl, ?_⟩ | refine ⟨Or.inl rfl, ?_⟩ | refine ⟨Or.inr ⟨_, rfl⟩, ?_⟩ | refine ⟨fun _ => ?_, fun h => absurd h (by decide)⟩ | refine ⟨fun h => absurd h (by decide), fun _ => ?_⟩)
  refine mg_m_mono (hm) (by omega) ?_
  rintro o q G1 w
  obtain ⟨(⟨h0, rfl⟩ | ⟨h0, rfl⟩ | ⟨h0, rfl⟩), hq, hT1, hF1⟩ := cA_2 w hr
  · exact ⟨1, 0, rfl, ⟨by decide, by decide⟩, by decide, Or.inl rfl, wP9_0 h0 (by omega) hT1 hF1⟩
  · exact ⟨show 4 < 5 by decide, Or.inl rfl, wP9_x h0 (by decide) (by omega) hT1 hF1⟩
  · exact ⟨show 4 < 5 by decide, Or.inl rfl, wP9_x h0 (by decide) (by omega) hT1 hF1⟩
theorem w384 (d : Nat) (v_ : Int32) (c_ : Int32) (hm : mg_m (mg_KM scr shO) (d + 820) 148 [.ref 0, .int v_, .int c_] G (cA G (ex2 xI xA) S' a)) (hr : q2_ a.1) : mg_m (mg_KM scr shO) (d + 821) 384 [.ref 0, .int v_, .int c_, .ref 169] G (wP9 G S' a) := by
  refine mg_me [] 60 my_384 ms_384 (Nat.le_of_ble_eq_true rfl) ?_
  repeat (first | refine ⟨_, mg_Fs rfl rfl, ?_⟩ | refine ⟨Or.inl rfl, ?_⟩ | refine ⟨Or.inr ⟨_, rfl⟩, ?_⟩ | refine ⟨fun _ => ?_, fun h => absurd h (by decide)⟩ | refine ⟨fun h => absurd h (by decide), fun _ => ?_⟩)
  refine mg_m_mono (hm) (by omega) ?_
  rintro o q G1 w
  obtain ⟨(⟨h0, rfl⟩ | ⟨h0, rfl⟩ | ⟨h0, rfl⟩), hq, hT1, hF1⟩ := cA_2 w hr
  · exact ⟨1, 0, rfl, ⟨by decide, by decide⟩, by decide, Or.inl rfl, wP9_0 h0 (by omega) hT1 hF1⟩
  · exact ⟨show 4 < 5 by decide, Or.inl rfl, wP9_x h0 (by decide) (by omega) hT1 hF1⟩
  · exact ⟨show 4 < 5 by decide, Or.inl rfl, wP9_x h0 (by decide) (by omega) hT1 hF1⟩
theorem w385 (d : Nat)  (hm : mg_m (mg_KM scr shO) (d + 820) 149 [.ref 0] G (cA G (ex1 xA) S' a)) (hr : q1_ a.1) : mg_m (mg_KM scr shO) (d + 821) 385 [.ref 0, .ref 169] G (wP9 G S' a) := by
  refine mg_me [] 60 my_385 ms_385 (Nat.le_of_ble_eq_true rfl) ?_
  repeat (first | refine ⟨_, mg_Fs rfl rfl, ?_⟩ | refine ⟨Or.inl rfl, ?_⟩ | refine ⟨Or.inr ⟨_, rfl⟩, ?_⟩ | refine ⟨fun _ => ?_, fun h => absurd h (by decide)⟩ | refine ⟨fun h => absurd h (by decide), fun _ => ?_⟩)
  refine mg_m_mono (hm) (by omega) ?_
  rintro o q G1 w
  obtain ⟨(⟨h0, rfl⟩ | ⟨h0, rfl⟩), hq, hT1, hF1⟩ := cA_1 w hr
  · exact ⟨1, 0, rfl, ⟨by decide, by decide⟩, by decide, Or.inl rfl, wP9_0 h0 (by omega) hT1 hF1⟩
  · exact ⟨show 2 < 3 by decide, Or.inl rfl, wP9_x h0 (by decide) (by omega) hT1 hF1⟩
theorem w386 (d : Nat)  (hm : mg_m (mg_KM scr shO) (d + 820) 150 [.ref 0] G (cA G (ex1 xS) S' a)) (hr : q1_ a.1) : mg_m (mg_KM scr shO) (d + 821) 386 [.ref 0, .ref 169] G (wP9 G S' a) := by
  refine mg_me [] 60 my_386 ms_386 (Nat.le_of_ble_eq_true rfl) ?_
  repeat (first | refine ⟨_, mg_Fs rfl rfl, ?_⟩ | refine ⟨Or.inl rfl, ?_⟩ | refine ⟨Or.inr ⟨_, rfl⟩, ?_⟩ | refine ⟨fun _ => ?_, fun h => absurd h (by decide)⟩ | refine ⟨fun h => absurd h (by decide), fun _ => ?_⟩)
  refine mg_m_mono (hm) (by omega) ?_
  rintro o q G1 w
  obtain ⟨(⟨h0, rfl⟩ | ⟨h0, rfl⟩), hq, hT1, hF1⟩ := cA_1 w hr
  · exact ⟨1, 0, rfl, ⟨by decide, by decide⟩, by decide, Or.inl rfl, wP9_0 h0 (by omega) hT1 hF1⟩
  · exact ⟨show 2 < 3 by decide, Or.inl rfl, wP9_x h0 (by decide) (by omega) hT1 hF1⟩
theorem w387 (d : Nat) (s_ : Int32) (hm : mg_m (mg_KM scr shO) (d + 820) 151 [.ref 0, .int s_] G (cA G (ex1 xI) S' a)) (hr : q1_ a.1) : mg_m (mg_KM scr shO) (d + 821) 387 [.ref 0, .int s_, .ref 169] G (wP9 G S' a) := by
  refine mg_me [] 60 my_387 ms_387 (Nat.le_of_ble_eq_true rfl) ?_
  repeat (first | refine ⟨_, mg_Fs rfl rfl, ?_⟩ | refine ⟨Or.inl rfl, ?_⟩ | refine ⟨Or.inr ⟨_, rfl⟩, ?_⟩ | refine ⟨fun _ => ?_, fun h => absurd h (by decide)⟩ | refine ⟨fun h => absurd h (by decide), fun _ => ?_⟩)
  refine mg_m_mono (hm) (by omega) ?_
  rintro o q G1 w
  obtain ⟨(⟨h0, rfl⟩ | ⟨h0, rfl⟩), hq, hT1, hF1⟩ := cA_1 w hr
  · exact ⟨1, 0, rfl, ⟨by decide, by decide⟩, by decide, Or.inl rfl, wP9_0 h0 (by omega) hT1 hF1⟩
  · exact ⟨show 3 < 4 by decide, Or.inl rfl, wP9_x h0 (by decide) (by omega) hT1 hF1⟩
theorem w388 (d : Nat) (s_ : Int32) (hm : mg_m (mg_KM scr shO) (d + 820) 152 [.ref 0, .int s_] G (cA G (ex2 xI xS) S' a)) (hr : q2_ a.1) : mg_m (mg_KM scr shO) (d + 821) 388 [.ref 0, .int s_, .ref 169] G (wP9 G S' a) := by
  refine mg_me [] 60 my_388 ms_388 (Nat.le_of_ble_eq_true rfl) ?_
  repeat (first | refine ⟨_, mg_Fs rfl rfl, ?_⟩ | refine ⟨Or.inl rfl, ?_⟩ | refine ⟨Or.inr ⟨_, rfl⟩, ?_⟩ | refine ⟨fun _ => ?_, fun h => absurd h (by decide)⟩ | refine ⟨fun h => absurd h (by decide), fun _ => ?_⟩)
  refine mg_m_mono (hm) (by omega) ?_
  rintro o q G1 w
  obtain ⟨(⟨h0, rfl⟩ | ⟨h0, rfl⟩ | ⟨h0, rfl⟩), hq, hT1, hF1⟩ := cA_2 w hr
  · exact ⟨1, 0, rfl, ⟨by decide, by decide⟩, by decide, Or.inl rfl, wP9_0 h0 (by omega) hT1 hF1⟩
  · exact ⟨show 3 < 4 by decide, Or.inl rfl, wP9_x h0 (by decide) (by omega) hT1 hF1⟩
  · exact ⟨show 3 < 4 by decide, Or.inl rfl, wP9_x h0 (by decide) (by omega) hT1 hF1⟩
theorem w389 (d : Nat) (f_ : Int32) (hm : mg_m (mg_KM scr shO) (d + 820) 153 [.ref 0, .int f_] G (cA G (ex1 xI) S' a)) (hr : q1_ a.1) : mg_m (mg_KM scr shO) (d + 821) 389 [.ref 0, .int f_, .ref 169] G (wP9 G S' a) := by
  refine mg_me [] 60 my_389 ms_389 (Nat.le_of_ble_eq_true rfl) ?_
  repeat (first | refine ⟨_, mg_Fs rfl rfl, ?_⟩ | refine ⟨Or.inl rfl, ?_⟩ | refine ⟨Or.inr ⟨_, rfl⟩, ?_⟩ | refine ⟨fun _ => ?_, fun h => absurd h (by decide)⟩ | refine ⟨fun h => absurd h (by decide), fun _ => ?_⟩)
  refine mg_m_mono (hm) (by omega) ?_
  rintro o q G1 w
  obtain ⟨(⟨h0, rfl⟩ | ⟨h0, rfl⟩), hq, hT1, hF1⟩ := cA_1 w hr
  · exact ⟨1, 0, rfl, ⟨by decide, by decide⟩, by decide, Or.inl rfl, wP9_0 h0 (by omega) hT1 hF1⟩
  · exact ⟨show 3 < 4 by decide, Or.inl rfl, wP9_x h0 (by decide) (by omega) hT1 hF1⟩
theorem w390 (d : Nat) (i_ : Int32) (hm : mg_m (mg_KM scr shO) (d + 820) 155 [.ref 0, .int i_] G (cA G (ex1 xI) S' a)) (hr : q1_ a.1) : mg_m (mg_KM scr shO) (d + 821) 390 [.ref 0, .int i_, .ref 169] G (wP9 G S' a) := by
  refine mg_me [] 60 my_390 ms_390 (Nat.le_of_ble_eq_true rfl) ?_
  repeat (first | refine ⟨_, mg_Fs rfl rfl, ?_⟩ | refine ⟨Or.inl rfl, ?_⟩ | refine ⟨Or.inr ⟨_, rfl⟩, ?_⟩ | refine ⟨fun _ => ?_, fun h => absurd h (by decide)⟩ | refine ⟨fun h => absurd h (by decide), fun _ => ?_⟩)
  refine mg_m_mono (hm) (by omega) ?_
  rintro o q G1 w
  obtain ⟨(⟨h0, rfl⟩ | ⟨h0, rfl⟩), hq, hT1, hF1⟩ := cA_1 w hr
  · exact ⟨1, 0, rfl, ⟨by decide, by decide⟩, by decide, Or.inl rfl, wP9_0 h0 (by omega) hT1 hF1⟩
  · exact ⟨show 3 < 4 by decide, Or.inl rfl, wP9_x h0 (by decide) (by omega) hT1 hF1⟩
end RM
