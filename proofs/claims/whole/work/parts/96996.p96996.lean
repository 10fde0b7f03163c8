/-! NAMES that stand in a text -/
/-- which of the first n names stands behind p -/
def k_at (N : Nat → List Nat) (n : Nat) (l : List Nat) (p : Nat) : Option Nat := a_ff (fun i => decide (N i = k_W l p)) n
section RM
variable {scr : Nat × (Nat → Int32)} {t : List mg_S} {G : mg_G} {l : List Nat} {p : Nat}
theorem r218 (d : Nat) (hI : rIn G l) (hk : rk G l p) (hp : p ≤ l.length) (h1 : k_K l p = 1) {at' : Nat} (hat : at' + 8 ≤ 2232) {m : List Nat} (hN : rNm G at' m) (hm : a_nm7 m) : mg_m (mg_KM scr t) (d + 1) 218 [.ref 148, .int (Int32.ofNat at')] G (mg_v (.int (b2 (decide (m = k_W l p)))) G) := by
  obtain ⟨k22, k23, k24, -⟩ := hk
  obtain ⟨N1, N2⟩ := hN
  have hl600 := hI.2.1
  have hEle := k_E_le hp
  have hSE := k_E_ge l p
  obtain ⟨n1, n2, n3⟩ := k_W_nm hp h1
  have n7 := n1.2
  have m7 := hm.2
  have eS : Int32.ofNat (k_E l p) - Int32.ofNat (k_S l p) = Int32.ofNat (k_W l p).length := by rw [sub_ofN hSE, n3, Nat.add_sub_cancel_left]
  refine mg_me [22] 60 my_218 ms_218 (Nat.le_of_ble_eq_true rfl) ?_
  repeat (first | refine ⟨_, mg_Fs rfl rfl, ?_⟩ | refine ⟨Or.inl rfl, ?_⟩ | refine ⟨Or.inr ⟨_, rfl⟩, ?_⟩ | refine ⟨fun _ => ?_, fun h => absurd h (by decide)⟩ | refine ⟨fun h => absurd h (by decide), fun _ => ?_⟩)
  refine ⟨_, _, at', mg_Ai rfl (by decide), mg_ixN (by omega), by omega, ?_⟩
  rw [N1]
  refine ⟨_, mg_Fe k22 rfl rfl, _, mg_Fe k24 rfl rfl, fun h => ?_, fun h => ?_⟩
  · have h : Int32.ofNat m.length = Int32.ofNat (k_E l p) - Int32.ofNat (k_S l p) := h
    rw [eS] at h
    have hlen := (mg_eqN (by omega) (by omega)).mp h
    refine mg_loop m.length (fun k L G' => L = [some (.ref 148), some (.int (Int32.ofNat at')), some (.int (Int32.ofNat k))] ∧ G' = G ∧ ∀ j, j < k → m[j]? = (k_W l p)[j]?) ?_ ?_ _ _ ⟨rfl, rfl, fun j hj => absurd hj (Nat.not_lt_zero j)⟩
    · rintro k L G' hkk ⟨rfl, rfl, hj⟩ ih
      obtain ⟨c, hc, hw, hc2, hc3⟩ := k_W_at hp h1 (i := k) (by omega)
      obtain ⟨x, hx⟩ : ∃ x, m[k]? = some x := ⟨_, List.getElem?_eq_getElem hkk⟩
      have hx2 := hm.1 x (List.mem_of_getElem? hx)
      refine mg_go [22] 60 22 ms_218 ?_
      refine ⟨_, mg_Fs rfl rfl, _, _, at', mg_Ai rfl (by decide), mg_ixN (by omega), by omega, ?_⟩
      rw [N1]
      refine ⟨fun h => absurd h (mg_nle hkk (by omega)), fun _ => ?_⟩
      refine ⟨_, mg_Fs rfl rfl, _, _, at' + 1 + k, mg_Ai rfl (by decide), mg_ixE (by rw [Int32.ofNat_add, Int32.ofNat_add]; rfl) (by omega), by omega, ?_⟩
      rw [N2 k x hx]
      refine ⟨_, mg_Fs rfl rfl, _, mg_Fe k24 rfl rfl, _, _, k_S l p + k, mg_Ai rfl (by decide), mg_ixE (Int32.ofNat_add _ _).symm (by omega), by omega, ?_⟩
      rw [(hI.2.2 _ _ hc).1]
      refine ⟨fun h => ?_, fun h => ?_⟩
      · have h := (mg_eqN (by omega) (by omega)).mp h
        refine ih _ _ ⟨by rw [mg_inc k] <;> rfl, rfl, fun j hjk => ?_⟩
        by_cases e : j = k
        · subst e
          rw [hx, hw, h]
        · exact hj j (by omega)
      · have hne : ¬ x = c := fun q => h (by rw [q])
        refine ⟨Or.inr rfl, ?_, rfl, rfl⟩
        rw [decide_eq_false (fun q => hne (by rw [q, hw] at hx; exact (Option.some.inj hx).symm))]
        rfl
    · rintro L G' ⟨rfl, rfl, hj⟩
      have hall : m = k_W l p := List.ext_getElem? fun i => by
        by_cases hi : i < m.length
        · exact hj i hi
        · rw [List.getElem?_eq_none (by omega), List.getElem?_eq_none (by omega)]
      refine mg_go [] 60 22 ms_218 ?_
      refine ⟨_, mg_Fs rfl rfl, _, _, at', mg_Ai rfl (by decide), mg_ixN (by omega), by omega, ?_⟩
      rw [N1]
      refine ⟨fun _ => ⟨Or.inr rfl, ?_, rfl, rfl⟩, fun h => absurd h (Int32.not_lt.mpr (Int32.le_refl _))⟩
      rw [decide_eq_true hall]
      rfl
  · have h : ¬ Int32.ofNat m.length = Int32.ofNat (k_E l p) - Int32.ofNat (k_S l p) := h
    rw [eS] at h
    refine ⟨Or.inr rfl, ?_, rfl, rfl⟩
    rw [decide_eq_false (fun q => h (by rw [q]))]
    rfl
theorem r219 (d : Nat) (hI : rIn G l) (hk : rk G l p) (hp : p ≤ l.length) (h1 : k_K l p = 1) {nv : Nat} (hv : G.1 149 0 = Int32.ofNat nv) (h8 : nv ≤ 8) {N : Nat → List Nat} (hN : ∀ v, v < nv → rNm G (26 + 8 * v) (N v) ∧ a_nm7 (N v)) : mg_m (mg_KM scr t) (d + 2) 219 [.ref 148] G (mg_v (.int (a_oi (k_at N nv l p))) G) := by
  refine mg_me [2] 60 my_219 ms_219 (Nat.le_of_ble_eq_true rfl) ?_
  refine mg_loop nv (fun k L G' => L = [some (.ref 148), some (.int (Int32.ofNat k))] ∧ G' = G ∧ ∀ j, j < k → decide (N j = k_W l p) = false) ?_ ?_ _ _ ⟨rfl, rfl, fun j hj => absurd hj (Nat.not_lt_zero j)⟩
  · rintro k L G' hkk ⟨rfl, rfl, hj⟩ ih
    obtain ⟨N1, N2⟩ := hN k hkk
    have kk := r218 (scr := scr) (t := t) d hI hk hp h1 (at' := 26 + 8 * k) (by omega) N1 N2
    rw [show Int32.ofNat (26 + 8 * k) = (Int8.ofInt 26).toInt32 + (Int8.ofInt 8).toInt32 * Int32.ofNat k from by rw [Int32.ofNat_add, Int32.ofNat_mul]; rfl] at kk
    refine mg_go [2] 60 2 ms_219 ?_
    repeat (first | refine ⟨_, mg_Fs rfl rfl, ?_⟩ | refine ⟨Or.inl rfl, ?_⟩ | refine ⟨Or.inr ⟨_, rfl⟩, ?_⟩ | refine ⟨fun _ => ?_, fun h => absurd h (by decide)⟩ | refine ⟨fun h => absurd h (by decide), fun _ => ?_⟩)
    refine mg_cv (r178n d hv) (by omega) ?_
    refine ⟨fun h => absurd h (mg_nle hkk (by omega)), fun _ => ?_⟩
    repeat (first | refine ⟨_, mg_Fs rfl rfl, ?_⟩ | refine ⟨Or.inl rfl, ?_⟩ | refine ⟨Or.inr ⟨_, rfl⟩, ?_⟩ | refine ⟨fun _ => ?_, fun h => absurd h (by decide)⟩ | refine ⟨fun h => absurd h (by decide), fun _ => ?_⟩)
    refine mg_cv (kk) (by omega) ?_
    cases e : decide (N k = k_W l p) with
    | true =>
      refine ⟨fun h => absurd h (by decide), fun _ => ⟨Or.inl rfl, ?_, rfl, rfl⟩⟩
      unfold k_at
      rw [a_ff_some hkk e hj]
      rfl
    | false =>
      refine ⟨fun _ => ih _ _ ⟨by rw [mg_inc k] <;> rfl, rfl, fun j hjk => ?_⟩, fun h => absurd rfl h⟩
      by_cases q : j = k
      · rw [q]; exact e
      · exact hj j (by omega)
  · rintro L G' ⟨rfl, rfl, hj⟩
    refine mg_go [] 60 2 ms_219 ?_
    repeat (first | refine ⟨_, mg_Fs rfl rfl, ?_⟩ | refine ⟨Or.inl rfl, ?_⟩ | refine ⟨Or.inr ⟨_, rfl⟩, ?_⟩ | refine ⟨fun _ => ?_, fun h => absurd h (by decide)⟩ | refine ⟨fun h => absurd h (by decide), fun _ => ?_⟩)
    refine mg_cv (r178n d hv) (by omega) ?_
    refine ⟨fun _ => ⟨Or.inl rfl, ?_, rfl, rfl⟩, fun h => absurd h (Int32.not_lt.mpr (Int32.le_refl _))⟩
    unfold k_at
    rw [a_ff_none hj]
    rfl
theorem r220 (d : Nat) (hI : rIn G l) (hk : rk G l p) (hp : p ≤ l.length) (h1 : k_K l p = 1) {nf : Nat} (hv : G.1 149 1 = Int32.ofNat nf) (h12 : nf ≤ 12) {N : Nat → List Nat} (hN : ∀ v, v < nf → rNm G (90 + 8 * v) (N v) ∧ a_nm7 (N v)) : mg_m (mg_KM scr t) (d + 2) 220 [.ref 148] G (mg_v (.int (a_oi (k_at N nf l p))) G) := by
  refine mg_me [2] 60 my_220 ms_220 (Nat.le_of_ble_eq_true rfl) ?_
  refine mg_loop nf (fun k L G' => L = [some (.ref 148), some (.int (Int32.ofNat k))] ∧ G' = G ∧ ∀ j, j < k → decide (N j = k_W l p) = false) ?_ ?_ _ _ ⟨rfl, rfl, fun j hj => absurd hj (Nat.not_lt_zero j)⟩
  · rintro k L G' hkk ⟨rfl, rfl, hj⟩ ih
    obtain ⟨N1, N2⟩ := hN k hkk
    have kk := r218 (scr := scr) (t := t) d hI hk hp h1 (at' := 90 + 8 * k) (by omega) N1 N2
    rw [show Int32.ofNat (90 + 8 * k) = (Int8.ofInt 90).toInt32 + (Int8.ofInt 8).toInt32 * Int32.ofNat k from by rw [Int32.ofNat_add, Int32.ofNat_mul]; rfl] at kk
    refine mg_go [2] 60 2 ms_220 ?_
    repeat (first | refine ⟨_, mg_Fs rfl rfl, ?_⟩ | refine ⟨Or.inl rfl, ?_⟩ | refine ⟨Or.inr ⟨_, rfl⟩, ?_⟩ | refine ⟨fun _ => ?_, fun h => absurd h (by decide)⟩ | refine ⟨fun h => absurd h (by decide), fun _ => ?_⟩)
    refine mg_cv (r179n d hv) (by omega) ?_
    refine ⟨fun h => absurd h (mg_nle hkk (by omega)), fun _ => ?_⟩
    repeat (first | refine ⟨_, mg_Fs rfl rfl, ?_⟩ | refine ⟨Or.inl rfl, ?_⟩ | refine ⟨Or.inr ⟨_, rfl⟩, ?_⟩ | refine ⟨fun _ => ?_, fun h => absurd h (by decide)⟩ | refine ⟨fun h => absurd h (by decide), fun _ => ?_⟩)
    refine mg_cv (kk) (by omega) ?_
    cases e : decide (N k = k_W l p) with
    | true =>
      refine ⟨fun h => absurd h (by decide), fun _ => ⟨Or.inl rfl, ?_, rfl, rfl⟩⟩
      unfold k_at
      rw [a_ff_some hkk e hj]
      rfl
    | false =>
      refine ⟨fun _ => ih _ _ ⟨by rw [mg_inc k] <;> rfl, rfl, fun j hjk => ?_⟩, fun h => absurd rfl h⟩
      by_cases q : j = k
      · rw [q]; exact e
      · exact hj j (by omega)
  · rintro L G' ⟨rfl, rfl, hj⟩
    refine mg_go [] 60 2 ms_220 ?_
    repeat (first | refine ⟨_, mg_Fs rfl rfl, ?_⟩ | refine ⟨Or.inl rfl, ?_⟩ | refine ⟨Or.inr ⟨_, rfl⟩, ?_⟩ | refine ⟨fun _ => ?_, fun h => absurd h (by decide)⟩ | refine ⟨fun h => absurd h (by decide), fun _ => ?_⟩)
    refine mg_cv (r179n d hv) (by omega) ?_
    refine ⟨fun _ => ⟨Or.inl rfl, ?_, rfl, rfl⟩, fun h => absurd h (Int32.not_lt.mpr (Int32.le_refl _))⟩
    unfold k_at
    rw [a_ff_none hj]
    rfl
/-- an error is kept -/
theorem r212 (d : Nat) (hk : rk G l p) (c : Int32) : mg_m (mg_KM scr t) (d + 1) 212 [.ref 148, .int c] G (mg_v (.int 0) (mg_sF (mg_sF G 148 6 (.int c)) 148 7 (.int (Int32.ofNat (k_S l p))))) := by
  have h24 : (mg_sF G 148 6 (.int c)).2.2.2.2 148 24 = .int (Int32.ofNat (k_S l p)) := (mg_sF_ne _ _ (by decide)).trans hk.2.2.1
  refine mg_me [] 60 my_212 ms_212 (Nat.le_of_ble_eq_true rfl) ?_
  exact ⟨rfl, _, rfl, rfl, _, mg_Fe h24 rfl rfl, rfl, _, rfl, rfl, Or.inr rfl, rfl, rfl, rfl⟩
end RM
section CG
variable {K : mg_K} {s nv nf : Nat} {G : mg_G} {l : List Nat} {p : Nat}
/-- the class's look-ups, of the word that stands behind p -/
theorem c69w (d : Nat) (H : kS K s) (h8 : nv < 9) (e : G.2.2.2.2 s 7 = .int (Int32.ofNat nv)) (hp : p ≤ l.length) (h1 : k_K l p = 1) {N : Nat → List Nat} (hN : ∀ v, v < nv → G.2.1 (s + 4) v = a_pk (N v) ∧ a_nm7 (N v)) : mg_m K (d + 1) 69 [.ref s, .long (a_pk (k_W l p))] G (mg_v (.int (a_oi (k_at N nv l p))) G) := by
  have h := c69 (K := K) d H h8 e (a_pk (k_W l p))
  rwa [show a_ff (fun v => decide (G.2.1 (s + 4) v = a_pk (k_W l p))) nv = k_at N nv l p from a_ff_c fun v hv => by
    obtain ⟨e1, e2⟩ := hN v hv
    rw [e1]
    exact decide_eq_decide.mpr (a_pk_inj e2 (k_W_nm hp h1).1)] at h
theorem c68w (d : Nat) (H : kS K s) (h12 : nf ≤ 12) (e : G.2.2.2.2 s 6 = .int (Int32.ofNat nf)) (hp : p ≤ l.length) (h1 : k_K l p = 1) {N : Nat → List Nat} (hN : ∀ v, v < nf → G.2.1 (s + 3) v = a_pk (N v) ∧ a_nm7 (N v)) : mg_m K (d + 1) 68 [.ref s, .long (a_pk (k_W l p))] G (mg_v (.int (a_oi (k_at N nf l p))) G) := by
  have h := c68 (K := K) d H h12 e (a_pk (k_W l p))
  obtain ⟨w1, w2, -⟩ := k_W_nm hp h1
  rwa [show a_ff (fun v => decide (a_pk (k_W l p) ≠ 0 ∧ G.2.1 (s + 3) v = a_pk (k_W l p))) nf = k_at N nf l p from a_ff_c fun v hv => by
    obtain ⟨e1, e2⟩ := hN v hv
    rw [e1]
    exact decide_eq_decide.mpr ⟨fun q => (a_pk_inj e2 w1).mp q.2, fun q => ⟨fun z => w2 ((a_pk_0 w1).mp z), (a_pk_inj e2 w1).mpr q⟩⟩] at h
end CG
