/-! REFERENCE: formulas are read -/
/-- what reading a formula may change -/
def rRf (G G' : mg_G) : Prop := (∀ b, b < 155 ∨ 168 < b → G'.1 b = G.1 b ∧ G'.2.1 b = G.2.1 b) ∧ G'.2.2.1 = G.2.2.1 ∧ G'.2.2.2.1 = G.2.2.2.1 ∧ ∀ b k, ¬ (b = 148 ∧ (k = 6 ∨ k = 7 ∨ k = 16 ∨ (22 ≤ k ∧ k ≤ 26) ∨ k = 28 ∨ k = 31)) → G'.2.2.2.2 b k = G.2.2.2.2 b k
theorem rRf.rf (G : mg_G) : rRf G G := ⟨fun _ _ => ⟨rfl, rfl⟩, rfl, rfl, fun _ _ _ => rfl⟩
theorem rRf.tr {G G' G'' : mg_G} (h : rRf G G') (h2 : rRf G' G'') : rRf G G'' := ⟨fun b hb => ⟨(h2.1 b hb).1.trans (h.1 b hb).1, (h2.1 b hb).2.trans (h.1 b hb).2⟩, h2.2.1.trans h.2.1, h2.2.2.1.trans h.2.2.1, fun b k hb => (h2.2.2.2 b k hb).trans (h.2.2.2 b k hb)⟩
theorem rX.R {G G' : mg_G} (h : rX G G') : rRf G G' := ⟨h.1, h.2.1, h.2.2.1, fun b k hb => h.2.2.2 b k (by omega)⟩
/-- the fields of a token, and how many brackets are open -/
def rKo (G G' : mg_G) : Prop := G'.1 = G.1 ∧ G'.2.1 = G.2.1 ∧ G'.2.2.1 = G.2.2.1 ∧ G'.2.2.2.1 = G.2.2.2.1 ∧ ∀ b k, ¬ (b = 148 ∧ 22 ≤ k ∧ k ≤ 26) → G'.2.2.2.2 b k = G.2.2.2.2 b k
theorem rKo.rf (G : mg_G) : rKo G G := ⟨rfl, rfl, rfl, rfl, fun _ _ _ => rfl⟩
theorem rKo.tr {G G' G'' : mg_G} (h : rKo G G') (h2 : rKo G' G'') : rKo G G'' := ⟨h2.1.trans h.1, h2.2.1.trans h.2.1, h2.2.2.1.trans h.2.2.1, h2.2.2.2.1.trans h.2.2.2.1, fun b k hb => (h2.2.2.2.2 b k hb).trans (h.2.2.2.2 b k hb)⟩
theorem rKf.o {G G' : mg_G} (h : rKf G G') : rKo G G' := ⟨h.1, h.2.1, h.2.2.1, h.2.2.2.1, fun b k hb => h.2.2.2.2 b k (by omega)⟩
theorem rKo.s (G : mg_G) (k : Nat) (v : Value) (hk : 22 ≤ k ∧ k ≤ 26) : rKo G (mg_sF G 148 k v) := ⟨rfl, rfl, rfl, rfl, fun b j hb => mg_sF_ne _ _ (by omega)⟩
theorem rKo.R {G G' : mg_G} (h : rKo G G') : rRf G G' := ⟨fun b _ => ⟨congrFun h.1 b, congrFun h.2.1 b⟩, h.2.2.1, h.2.2.2.1, fun b k hb => h.2.2.2.2 b k (by omega)⟩
theorem rRf.n {G G' : mg_G} {l : List Nat} (h : rRf G G') (hI : rIn G l) : rIn G' l := ⟨(h.2.2.2 148 5 (by decide)).trans hI.1, hI.2.1, fun i c hi => by rw [(h.1 152 (by decide)).1]; exact hI.2.2 i c hi⟩
theorem rRf.I {G G' : mg_G} {A : a_A} (h : rRf G G') (hI : rI G A) : rI G' A := ⟨fun v hv => by rw [(h.1 154 (by decide)).2]; exact hI.1 v hv, hI.2.1.c (h.1 149 (by decide)).1 (h.1 150 (by decide)).2, hI.2.2⟩
theorem rKo.K {G G' : mg_G} {ts : List a_T} (h : rKo G G') (hK : rK G ts) : rK G' ts := ⟨(h.2.2.2.2 148 28 (by decide)).trans hK.1, fun i T hi w hw => by rw [h.2.1]; exact hK.2 i T hi w hw⟩
theorem rX.k {G G' : mg_G} {l : List Nat} {p : Nat} (h : rX G G') (hk : rk G l p) : rk G' l p := ⟨(h.2.2.2 148 22 (by decide)).trans hk.1, (h.2.2.2 148 23 (by decide)).trans hk.2.1, (h.2.2.2 148 24 (by decide)).trans hk.2.2.1, fun q => (h.2.2.2 148 25 (by decide)).trans (hk.2.2.2 q)⟩
theorem rk.o {G : mg_G} {l : List Nat} {p : Nat} (h : rk G l p) (v : Value) : rk (mg_sF G 148 26 v) l p := ⟨(mg_sF_ne _ _ (by decide)).trans h.1, (mg_sF_ne _ _ (by decide)).trans h.2.1, (mg_sF_ne _ _ (by decide)).trans h.2.2.1, fun q => (mg_sF_ne _ _ (by decide)).trans (h.2.2.2 q)⟩
/-- an error stands -/
def zX (G : mg_G) (c : Int32) (l : List Nat) (p : Nat) : mg_G := mg_sF (mg_sF G 148 6 (.int c)) 148 7 (.int (Int32.ofNat (k_S l p)))
theorem zX_R (G : mg_G) (c : Int32) (l : List Nat) (p : Nat) : rRf G (zX G c l p) := ⟨fun _ _ => ⟨rfl, rfl⟩, rfl, rfl, fun b k hb => (mg_sF_ne _ _ (by omega)).trans (mg_sF_ne _ _ (by omega))⟩
/-- what stands when a formula is to be read -/
def zI (G : mg_G) (A : a_A) (l : List Nat) (p o : Nat) (ts : List a_T) : Prop := rI G A ∧ rIn G l ∧ rk G l p ∧ rK G ts ∧ G.2.2.2.2 148 26 = .int (Int32.ofNat o)
/-- what reading one leaves -/
def zQ (G : mg_G) (l : List Nat) (o : Nat) (ts : List a_T) (r : zEr ⊕ (a_T × Nat)) : mg_Q := fun ou q G' => q = 0 ∧ rRf G G' ∧ match r with
  | .inl e => ou = .inl (some (.int 0)) ∧ G'.2.2.2.2 148 6 = .int e.1 ∧ G'.2.2.2.2 148 7 = .int (Int32.ofNat e.2)
  | .inr x => ou = .inl (some (.int 1)) ∧ rk G' l x.2 ∧ rK G' (ts ++ [x.1]) ∧ G'.2.2.2.2 148 26 = .int (Int32.ofNat o) ∧ G'.2.2.2.2 148 6 = G.2.2.2.2 148 6 ∧ G'.2.2.2.2 148 7 = G.2.2.2.2 148 7
theorem zQ_x {G0 G : mg_G} {l : List Nat} {o p : Nat} {ts : List a_T} {c : Int32} (h : rRf G0 G) : zQ G0 l o ts (.inl (c, k_S l p)) (.inl (some (.int 0))) 0 (zX G c l p) := ⟨rfl, h.tr (zX_R G c l p), rfl, (mg_sF_ne _ _ (by decide)).trans (mg_sF_at _ _ _ _), mg_sF_at _ _ _ _⟩
/-- an error of a part is one of the whole -/
theorem zQ_e {G0 G1 G' : mg_G} {l : List Nat} {o o' : Nat} {ts ts' : List a_T} {e : zEr} {ou : Option Value ⊕ String} {q : Nat} (h : rRf G0 G1) (w : zQ G1 l o ts (.inl e) ou q G') : q = 0 ∧ ou = .inl (some (.int 0)) ∧ zQ G0 l o' ts' (.inl e) (.inl (some (.int 0))) 0 G' := ⟨w.1, w.2.2.1, rfl, h.tr w.2.1, rfl, w.2.2.2.1, w.2.2.2.2⟩
def zY (lvl : Nat) : Nat := [231, 232, 233, 234, 235, 241].getD lvl 0
def zC (lvl : Nat) : mm_Code := [mc_231, mc_232, mc_233, mc_234, mc_235].getD lvl []
def zIH (scr : Nat × (Nat → Int32)) (t : List mg_S) (A : a_A) (l : List Nat) (n : Nat) : Prop :=
  (∀ lvl o p ts r G, lvl ≤ 5 → o ≤ 20 → p ≤ l.length → ts.length ≤ 7 * o + lvl → zI G A l p o ts → zP A l n lvl none o p = some r → ∀ d, mg_m (mg_KM scr t) (d + 8 * (20 - o) + (6 - lvl) + (l.length - p) + 10) (zY lvl) [.ref 148] G (zQ G l o ts r)) ∧
  (∀ lvl o p ts T r G, lvl < 5 → o ≤ 20 → p ≤ l.length → ts.length ≤ 7 * o + lvl → zI G A l p o (ts ++ [T]) → a_per (aV A) T → zP A l n lvl (some T) o p = some r → ∀ d, mg_wp (mg_KM scr t) (zC lvl) (d + 8 * (20 - o) + (6 - lvl) + (l.length - p) + 9) 9 [some (.ref 148)] [] G (zQ G l o ts r))
section RM
variable {scr : Nat × (Nat → Int32)} {t : List mg_S} {G : mg_G} {A : a_A} {l : List Nat} {p : Nat}
theorem r215x (d : Nat) (hI : rIn G l) (hk : rk G l p) (hp : p ≤ l.length) {c : Nat} (hc : c < 128) (h : k_is l p c = false) : mg_m (mg_KM scr t) (d + 2) 215 [.ref 148, .int (Int32.ofNat c)] G (mg_v (.int 0) (zX G 1 l p)) := by
  have k1 := r214 (scr := scr) (t := t) d hI hk hp hc
  rw [h] at k1
  refine mg_me [] 20 my_215 ms_215 (Nat.le_of_ble_eq_true rfl) ?_
  repeat (first | refine ⟨_, mg_Fs rfl rfl, ?_⟩ | refine ⟨Or.inl rfl, ?_⟩ | refine ⟨Or.inr ⟨_, rfl⟩, ?_⟩ | refine ⟨fun _ => ?_, fun h => absurd h (by decide)⟩ | refine ⟨fun h => absurd h (by decide), fun _ => ?_⟩)
  refine mg_cv (k1) (by omega) ?_
  refine ⟨fun q => absurd rfl q, fun _ => ?_⟩
  repeat (first | refine ⟨_, mg_Fs rfl rfl, ?_⟩ | refine ⟨Or.inl rfl, ?_⟩ | refine ⟨Or.inr ⟨_, rfl⟩, ?_⟩ | refine ⟨fun _ => ?_, fun h => absurd h (by decide)⟩ | refine ⟨fun h => absurd h (by decide), fun _ => ?_⟩)
  refine mg_cv (r212 d hk 1) (by omega) ?_
  exact ⟨Or.inr rfl, rfl, rfl, rfl⟩
theorem r215y (d : Nat) (hI : rIn G l) (hk : rk G l p) (hp : p ≤ l.length) {c : Nat} (hc : c < 128) (h : k_is l p c = true) : mg_m (mg_KM scr t) (d + 3) 215 [.ref 148, .int (Int32.ofNat c)] G (fun ou q G' => ou = .inl (some (.int 1)) ∧ q = 0 ∧ rk G' l (k_E l p) ∧ rKf G G') := by
  have k1 := r214 (scr := scr) (t := t) d hI hk hp hc
  rw [h] at k1
  refine mg_me [] 20 my_215 ms_215 (Nat.le_of_ble_eq_true rfl) ?_
  repeat (first | refine ⟨_, mg_Fs rfl rfl, ?_⟩ | refine ⟨Or.inl rfl, ?_⟩ | refine ⟨Or.inr ⟨_, rfl⟩, ?_⟩ | refine ⟨fun _ => ?_, fun h => absurd h (by decide)⟩ | refine ⟨fun h => absurd h (by decide), fun _ => ?_⟩)
  refine mg_cv (k1) (by omega) ?_
  refine ⟨fun _ => ?_, fun q => absurd q (by decide)⟩
  repeat (first | refine ⟨_, mg_Fs rfl rfl, ?_⟩ | refine ⟨Or.inl rfl, ?_⟩ | refine ⟨Or.inr ⟨_, rfl⟩, ?_⟩ | refine ⟨fun _ => ?_, fun h => absurd h (by decide)⟩ | refine ⟨fun h => absurd h (by decide), fun _ => ?_⟩)
  refine mg_m_mono (r210 d hI (k_E_le hp) hk.1) (by omega) ?_
  rintro o q G1 ⟨rfl, rfl, hk1, hf1⟩
  exact ⟨Or.inr rfl, rfl, rfl, hk1, hf1⟩
theorem r236a (d : Nat) (hI : rIn G l) (hk : rk G l p) (hp : p ≤ l.length) (h : k_is l p 40 = false) : mg_m (mg_KM scr t) (d + 2) 236 [.ref 148] G (mg_v (.int 0) (zX G 1 l p)) := by
  have k1 := r214 (scr := scr) (t := t) d hI hk hp (c := 40) (by decide)
  rw [h] at k1
  refine mg_me [] 30 my_236 ms_236 (Nat.le_of_ble_eq_true rfl) ?_
  repeat (first | refine ⟨_, mg_Fs rfl rfl, ?_⟩ | refine ⟨Or.inl rfl, ?_⟩ | refine ⟨Or.inr ⟨_, rfl⟩, ?_⟩ | refine ⟨fun _ => ?_, fun h => absurd h (by decide)⟩ | refine ⟨fun h => absurd h (by decide), fun _ => ?_⟩)
  refine mg_cv (k1) (by omega) ?_
  refine ⟨fun q => absurd rfl q, fun _ => ?_⟩
  repeat (first | refine ⟨_, mg_Fs rfl rfl, ?_⟩ | refine ⟨Or.inl rfl, ?_⟩ | refine ⟨Or.inr ⟨_, rfl⟩, ?_⟩ | refine ⟨fun _ => ?_, fun h => absurd h (by decide)⟩ | refine ⟨fun h => absurd h (by decide), fun _ => ?_⟩)
  refine mg_cv (r212 d hk 1) (by omega) ?_
  exact ⟨Or.inr rfl, rfl, rfl, rfl⟩
theorem r236b (d : Nat) (hI : rIn G l) (hk : rk G l p) (hp : p ≤ l.length) (h : k_is l p 40 = true) (ho : G.2.2.2.2 148 26 = .int (Int32.ofNat 20)) : mg_m (mg_KM scr t) (d + 2) 236 [.ref 148] G (mg_v (.int 0) (zX G 5 l p)) := by
  have k1 := r214 (scr := scr) (t := t) d hI hk hp (c := 40) (by decide)
  rw [h] at k1
  refine mg_me [] 30 my_236 ms_236 (Nat.le_of_ble_eq_true rfl) ?_
  repeat (first | refine ⟨_, mg_Fs rfl rfl, ?_⟩ | refine ⟨Or.inl rfl, ?_⟩ | refine ⟨Or.inr ⟨_, rfl⟩, ?_⟩ | refine ⟨fun _ => ?_, fun h => absurd h (by decide)⟩ | refine ⟨fun h => absurd h (by decide), fun _ => ?_⟩)
  refine mg_cv (k1) (by omega) ?_
  refine ⟨fun _ => ?_, fun q => absurd q (by decide)⟩
  refine ⟨_, mg_Fe ho rfl rfl, fun q => absurd rfl q, fun _ => ?_⟩
  repeat (first | refine ⟨_, mg_Fs rfl rfl, ?_⟩ | refine ⟨Or.inl rfl, ?_⟩ | refine ⟨Or.inr ⟨_, rfl⟩, ?_⟩ | refine ⟨fun _ => ?_, fun h => absurd h (by decide)⟩ | refine ⟨fun h => absurd h (by decide), fun _ => ?_⟩)
  refine mg_cv (r212 d hk 5) (by omega) ?_
  exact ⟨Or.inr rfl, rfl, rfl, rfl⟩
theorem r236c (d : Nat) (hI : rIn G l) (hk : rk G l p) (hp : p ≤ l.length) (h : k_is l p 40 = true) {o : Nat} (h20 : o < 20) (ho : G.2.2.2.2 148 26 = .int (Int32.ofNat o)) : mg_m (mg_KM scr t) (d + 3) 236 [.ref 148] G (fun ou q G' => ou = .inl (some (.int 1)) ∧ q = 0 ∧ rk G' l (k_E l p) ∧ G'.2.2.2.2 148 26 = .int (Int32.ofNat (o + 1)) ∧ rKo G G') := by
  have k1 := r214 (scr := scr) (t := t) d hI hk hp (c := 40) (by decide)
  rw [h] at k1
  have f1 := rKo.s G 26 (.int (Int32.ofNat o + Int32.ofInt 1)) (by decide)
  refine mg_me [] 30 my_236 ms_236 (Nat.le_of_ble_eq_true rfl) ?_
  repeat (first | refine ⟨_, mg_Fs rfl rfl, ?_⟩ | refine ⟨Or.inl rfl, ?_⟩ | refine ⟨Or.inr ⟨_, rfl⟩, ?_⟩ | refine ⟨fun _ => ?_, fun h => absurd h (by decide)⟩ | refine ⟨fun h => absurd h (by decide), fun _ => ?_⟩)
  refine mg_cv (k1) (by omega) ?_
  refine ⟨fun _ => ?_, fun q => absurd q (by decide)⟩
  refine ⟨_, mg_Fe ho rfl rfl, fun _ => ?_, fun q => absurd ((mg_eqN (b := 20) (by omega) (by decide)).mp q) (by omega)⟩
  refine ⟨_, mg_Fe ho rfl rfl, rfl, _, rfl, rfl, ?_⟩
  repeat (first | refine ⟨_, mg_Fs rfl rfl, ?_⟩ | refine ⟨Or.inl rfl, ?_⟩ | refine ⟨Or.inr ⟨_, rfl⟩, ?_⟩ | refine ⟨fun _ => ?_, fun h => absurd h (by decide)⟩ | refine ⟨fun h => absurd h (by decide), fun _ => ?_⟩)
  refine mg_m_mono (r210 (G := mg_sF G 148 26 (.int (Int32.ofNat o + Int32.ofInt 1))) d (f1.R.n hI) (k_E_le hp) (hk.o _).1) (by omega) ?_
  rintro ou q G1 ⟨rfl, rfl, hk1, hf1⟩
  exact ⟨Or.inr rfl, rfl, rfl, hk1, (hf1.2.2.2.2 148 26 (by decide)).trans ((mg_sF_at _ _ _ _).trans (congrArg Value.int (mg_inc o))), f1.tr hf1.o⟩
theorem r237x (d : Nat) (hI : rIn G l) (hk : rk G l p) (hp : p ≤ l.length) (h : k_is l p 41 = false) : mg_m (mg_KM scr t) (d + 3) 237 [.ref 148] G (mg_v (.int 0) (zX G 1 l p)) := by
  refine mg_me [] 30 my_237 ms_237 (Nat.le_of_ble_eq_true rfl) ?_
  repeat (first | refine ⟨_, mg_Fs rfl rfl, ?_⟩ | refine ⟨Or.inl rfl, ?_⟩ | refine ⟨Or.inr ⟨_, rfl⟩, ?_⟩ | refine ⟨fun _ => ?_, fun h => absurd h (by decide)⟩ | refine ⟨fun h => absurd h (by decide), fun _ => ?_⟩)
  refine mg_cv (r215x d hI hk hp (c := 41) (by decide) h) (by omega) ?_
  exact ⟨fun q => absurd rfl q, fun _ => ⟨Or.inr rfl, rfl, rfl, rfl⟩⟩
theorem r237y (d : Nat) (hI : rIn G l) (hk : rk G l p) (hp : p ≤ l.length) (h : k_is l p 41 = true) {o : Nat} (ho : G.2.2.2.2 148 26 = .int (Int32.ofNat (o + 1))) : mg_m (mg_KM scr t) (d + 4) 237 [.ref 148] G (fun ou q G' => ou = .inl (some (.int 1)) ∧ q = 0 ∧ rk G' l (k_E l p) ∧ G'.2.2.2.2 148 26 = .int (Int32.ofNat o) ∧ rKo G G') := by
  refine mg_me [] 30 my_237 ms_237 (Nat.le_of_ble_eq_true rfl) ?_
  repeat (first | refine ⟨_, mg_Fs rfl rfl, ?_⟩ | refine ⟨Or.inl rfl, ?_⟩ | refine ⟨Or.inr ⟨_, rfl⟩, ?_⟩ | refine ⟨fun _ => ?_, fun h => absurd h (by decide)⟩ | refine ⟨fun h => absurd h (by decide), fun _ => ?_⟩)
  refine mg_m_mono (r215y d hI hk hp (c := 41) (by decide) h) (by omega) ?_
  rintro ou q G1 ⟨rfl, rfl, hk1, hf1⟩
  refine ⟨fun _ => ?_, fun q => absurd q (by decide)⟩
  refine ⟨_, mg_Fe ((hf1.2.2.2.2 148 26 (by decide)).trans ho) rfl rfl, rfl, _, rfl, rfl, Or.inr rfl, rfl, rfl, hk1.o _, (mg_sF_at _ _ _ _).trans (congrArg Value.int (mg_dec o)), hf1.o.tr (rKo.s _ _ _ (by decide))⟩
end RM
