/-- what reading a formula may change -/
def rRf (G G' : mg_G) : Prop := (∀ b, b < 155 ∨ 168 < b → G'.1 b = G.1 b ∧ G'.2.1 b = G.2.1 b) ∧ G'.2.2.1 = G.2.2.1 ∧ G'.2.2.2.1 = G.2.2.2.1 ∧ ∀ b k, ¬ (b = 148 ∧ (k = 6 ∨ k = 7 ∨ k = 16 ∨ (22 ≤ k ∧ k ≤ 26) ∨ k = 28 ∨ k = 31)) → G'.2.2.2.2 b k = G.2.2.2.2 b k
theorem rRf.rf (G : mg_G) : rRf G G := ⟨fun _ _ => ⟨rfl, rfl⟩, rfl, rfl, fun _ _ _ => rfl⟩
theorem rRf.tr {G G' G'' : mg_G} (h : rRf G G') (h2 : rRf G' G'') : rRf G G'' := ⟨fun b hb => ⟨(h2.1 b hb).1.trans (h.1 b hb).1, (h2.1 b hb).2.trans (h.1 b hb).2⟩, h2.2.1.trans h.2.1, h2.2.2.1.trans h.2.2.1, fun b k hb => (h2.2.2.2 b k hb).trans (h.2.2.2 b k hb)⟩
theorem rX.R {G G' : mg_G} (h : rX G G') : rRf G G' := ⟨h.1, h.2.1, h.2.2.1, fun b k hb => h.2.2.2 b k (by omega)⟩
/-- the fields of a token, and how many brackets are open -/
def rKo (G G' : mg_G) : Prop := G'.1 = G.1 ∧ G'.2.1 = G.2.1 ∧ G'.2.2.1 = G.2.2.1 ∧ G'.2.2.2.1 = G.2.2.2.1 ∧ ∀ b k, ¬ (b = 148 ∧ 22 ≤ k ∧ k ≤ 26) → G'.2.2.2.2 b k = G.2.2.2.2 b k
theorem rKo.rf (G : mg_G) : rKo G G := ⟨rfl, rfl, rfl, rfl, fun _ _ _ => rfl⟩
theorem rKo.tr {G G' G'' : mg_G} (h : rKo G G') (h2 : rKo G' G'') : rKo G G'' := ⟨h2.1.trans h.1, h2.2.1.trans h.2.1, h2.2.2.1.trans h.2.2.1, h2.2.2.2.1.trans h.2.2.2.1, fun b k hb => (h2.2.2.2.2 b k hb).trans (h.2.2.2.2 b k hb)⟩
theorem rKf.o {G G' : mg_G} (h : rKf G G') : rKo G G' := ⟨h.1, h.2.1, h.2.2.1, h.2.2.2.1, fun b k hb => h.2.2.2.2 b k (by omega)⟩
theorem rKo.s (G : mg_G) (k : Nat) (v : Value) (hk : 22 ≤ k ∧ k ≤ 26) : rKo G (mg_sF G 148 k v) := ⟨rfl, rfl, rfl, rfl, fun b j hb => mg_sF_ne _ _ (by omega)⟩
theorem rKo.R {G G' : mg_G} (h : rKo G G') : rRf G G' := ⟨fun b _ => ⟨congrFun h.1 b, congrFun h.2.1 b⟩, h.2.2.1, h.2.2.2.1, fun b k hb => h.2.2.2.2 b k (by omega)⟩
theorem rRf.n {G G' : mg_G} {l : List Nat} (h : rRf G G') (hI : rIn G l) : rIn G' l := ⟨(h.2.2.2 148 5 (by decide)).trans hI.1, hI.2.1, fun i c hi => by rw [(h.1 152 (by decide)).1]; exact hI.2.2 i c hi⟩
theorem rRf.I {G G' : mg_G} {A : a_A} (h : rRf G G') (hI : rI G A) : rI G' A := ⟨fun v hv => by rw [(h.1 154 (by decide)).2]; exact hI.1 v hv, hI.2.1.c (h.1 149 (by decide)).1 (h.1 150 (by decide)).2, hI.2.2⟩
theorem rKo.K {G G' : mg_G} {ts : List a_T} (h : rKo G G') (hK : rK G ts) : rK G' ts := ⟨(h.2.2.2.2 148 28 (by decide)).trans hK.1, fun i T hi w hw => by rw [h.2.1]; exact hK.2 i T hi w hw⟩
theorem rk.o {G : mg_G} {l : List Nat} {p : Nat} (h : rk G l p) (v : Value) : rk (mg_sF G 148 26 v) l p := ⟨(mg_sF_ne _ _ (by decide)).trans h.1, (mg_sF_ne _ _ (by decide)).trans h.2.1, (mg_sF_ne _ _ (by decide)).trans h.2.2.1, fun q => (mg_sF_ne _ _ (by decide)).trans (h.2.2.2 q)⟩
/-- an error stands -/
def zX (G : mg_G) (c : Int32) (l : List Nat) (p : Nat) : mg_G := mg_sF (mg_sF G 148 6 (.int c)) 148 7 (.int (Int32.ofNat (k_S l p)))
theorem zX_R (G : mg_G) (c : Int32) (l : List Nat) (p : Nat) : rRf G (zX G c l p) := ⟨fun _ _ => ⟨rfl, rfl⟩, rfl, rfl, fun b k hb => (mg_sF_ne _ _ (by omega)).trans (mg_sF_ne _ _ (by omega))⟩
/-- what stands when a formula is to be read -/
def zI (G : mg_G) (A : a_A) (l : List Nat) (p o : Nat) (ts : List a_T) : Prop := rI G A ∧ rIn G l ∧ rk G l p ∧ rK G ts ∧ G.2.2.2.2 148 26 = .int (Int32.ofNat o)
/-- what reading one leaves -/
def zQ (G : mg_G) (l : List Nat) (o : Nat) (ts : List a_T) (r : zEr ⊕ (a_T × Nat)) : mg_Q := fun ou q G' => q = 0 ∧ rRf G G' ∧ match r with
  | .inl e => ou = .inl (some (.int 0)) ∧ G'.2.2.2.2 148 6 = .int e.1 ∧ G'.2.2.2.2 148 7 = .int (Int32.ofNat e.2)
  | .inr x => ou = .inl (some (.int 1)) ∧ rk G' l x.2 ∧ rK G' (ts ++ [x.1]) ∧ G'.2.2.2.2 148 26 = .int (Int32.ofNat o) ∧ G'.2.2.2.2 148 6 = G.2.2.2.2 148 6 ∧ G'.2.2.2.2 148 7 = G.2.2.2.2 148 7
section RM
variable {scr : Nat × (Nat → Int32)} {t : List mg_S} {G : mg_G} {A : a_A} {l : List Nat} {p : Nat}
end RM
