def kQ (s a : Nat) : Prop := s ≤ a ∧ a ≤ s + 7
/-- the state at s in G' is that at t in G -/
def sEq (G G' : mg_G) (t s : Nat) : Prop := (∀ i, i < 56 → G'.2.1 (s + 2) i = G.2.1 (t + 2) i) ∧ (∀ i, i < 12 → G'.2.1 (s + 3) i = G.2.1 (t + 3) i) ∧ (∀ i, i < 8 → G'.2.1 (s + 4) i = G.2.1 (t + 4) i) ∧ (∀ i, i < 8 → G'.1 (s + 5) i = G.1 (t + 5) i) ∧ (∀ i, i < 8 → G'.1 (s + 6) i = G.1 (t + 6) i) ∧ (∀ i, i < 8 → G'.1 (s + 7) i = G.1 (t + 7) i) ∧ G'.2.2.2.2 (s + 1) 1 = G.2.2.2.2 (t + 1) 1 ∧ G'.2.2.2.2 s 6 = G.2.2.2.2 t 6 ∧ G'.2.2.2.2 s 7 = G.2.2.2.2 t 7
theorem a_cpy0 {α : Type} (f g : Nat → α) {n i : Nat} (h : i < n) : va_cpy f g 0 0 n i = f i := by
  unfold va_cpy
  rw [if_pos ⟨Nat.zero_le _, by omega⟩, Nat.zero_add, Nat.sub_zero]
section CS
variable {K : mg_K} {s t : Nat} {G : mg_G}
theorem c64 (d : Nat) (H : kS K s) (Ht : kS K t) (hst : s + 8 ≤ t ∨ t + 8 ≤ s) {w f v : Int32} (hw : G.2.2.2.2 (t + 1) 1 = .int w) (hf : G.2.2.2.2 t 6 = .int f) (hv : G.2.2.2.2 t 7 = .int v) : mg_m K (d + 1) 64 [.ref s, .ref t] G (fun o k G' => o = .inl none ∧ k = 0 ∧ sEq G G' t s ∧ mg_fr (kQ s) G G') := by
  have z : mg_ix (Int32.ofInt 0) 0 := ⟨by decide, by decide⟩
  have z8 : mg_ix (Int8.ofInt 8).toInt32 8 := ⟨by decide, by decide⟩
  have z12 : mg_ix (Int8.ofInt 12).toInt32 12 := ⟨by decide, by decide⟩
  have q : ∀ i, i ≤ 7 → kQ s (s + i) := fun i hi => by unfold kQ; omega
  refine mg_me [] 100 my_64 ms_64 (Nat.le_of_ble_eq_true rfl) ?_
  refine ⟨_, Ht.t, _, Ht.T.b, _, H.t, _, H.T.b, _, H.t, _, H.T.b, _, _, _, H.T.r, by decide, ?_⟩
  refine ⟨by decide, 56, 0, 0, 56, 56, mg_ixN (by decide), z, z, by decide, by decide, Or.inr ⟨Ht.T.2.1, H.T.2.1, ?_⟩⟩
  refine ⟨_, H.t, _, Ht.t, _, Ht.T.w hw, rfl, _, H.T.1, rfl, ?_⟩
  refine ⟨_, Ht.fn, _, H.fn, by decide, 12, 0, 0, 12, 12, z12, z, z, by decide, by decide, Or.inr ⟨Ht.s3, H.s3, ?_⟩⟩
  refine ⟨_, Ht.vn, _, H.vn, by decide, 8, 0, 0, 8, 8, z8, z, z, by decide, by decide, Or.inr ⟨Ht.s4, H.s4, ?_⟩⟩
  refine ⟨_, Ht.od, _, H.od, by decide, 8, 0, 0, 8, 8, z8, z, z, by decide, by decide, Or.inl ⟨Ht.s5, H.s5, ?_⟩⟩
  refine ⟨_, Ht.co, _, H.co, by decide, 8, 0, 0, 8, 8, z8, z, z, by decide, by decide, Or.inl ⟨Ht.s6, H.s6, ?_⟩⟩
  refine ⟨_, Ht.pe, _, H.pe, by decide, 8, 0, 0, 8, 8, z8, z, z, by decide, by decide, Or.inl ⟨Ht.s7, H.s7, ?_⟩⟩
  refine ⟨_, Ht.nf ((mg_u2_at _ _ _ _ _ _).trans ((if_neg (by omega)).trans hf)), rfl, _, H.1, rfl, ?_⟩
  refine ⟨_, Ht.nv ((mg_u2_at _ _ _ _ _ _).trans ((if_neg (by omega)).trans ((mg_u2_at _ _ _ _ _ _).trans ((if_neg (by omega)).trans hv)))), rfl, _, H.1, rfl, ?_⟩
  refine ⟨rfl, rfl, ⟨fun i hi => ?_, fun i hi => ?_, fun i hi => ?_, fun i hi => ?_, fun i hi => ?_, fun i hi => ?_, ?_, ?_, ?_⟩, ?_⟩
  · refine (congrFun (mg_u_ne _ _ (by omega)) i).trans ((congrFun (mg_u_ne _ _ (by omega)) i).trans ((congrFun (mg_u_eq _ _ _) i).trans (a_cpy0 _ _ hi)))
  · refine (congrFun (mg_u_ne _ _ (by omega)) i).trans ((congrFun (mg_u_eq _ _ _) i).trans ((a_cpy0 _ _ hi).trans (congrFun (mg_u_ne _ _ (by omega)) i)))
  · refine (congrFun (mg_u_eq _ _ _) i).trans ((a_cpy0 _ _ hi).trans ((congrFun (mg_u_ne _ _ (by omega)) i).trans (congrFun (mg_u_ne _ _ (by omega)) i)))
  · refine (congrFun (mg_u_ne _ _ (by omega)) i).trans ((congrFun (mg_u_ne _ _ (by omega)) i).trans ((congrFun (mg_u_eq _ _ _) i).trans (a_cpy0 _ _ hi)))
  · refine (congrFun (mg_u_ne _ _ (by omega)) i).trans ((congrFun (mg_u_eq _ _ _) i).trans ((a_cpy0 _ _ hi).trans (congrFun (mg_u_ne _ _ (by omega)) i)))
  · refine (congrFun (mg_u_eq _ _ _) i).trans ((a_cpy0 _ _ hi).trans ((congrFun (mg_u_ne _ _ (by omega)) i).trans (congrFun (mg_u_ne _ _ (by omega)) i)))
  · exact (mg_u2_at _ _ _ _ _ _).trans ((if_neg (by omega)).trans ((mg_u2_at _ _ _ _ _ _).trans ((if_neg (by omega)).trans ((mg_u2_at _ _ _ _ _ _).trans ((if_pos ⟨rfl, rfl⟩).trans hw.symm)))))
  · exact (mg_u2_at _ _ _ _ _ _).trans ((if_neg (by omega)).trans ((mg_u2_at _ _ _ _ _ _).trans ((if_pos ⟨rfl, rfl⟩).trans hf.symm)))
  · exact (mg_u2_at _ _ _ _ _ _).trans ((if_pos ⟨rfl, rfl⟩).trans hv.symm)
  · intro a ha
    have ne : ∀ i, i ≤ 7 → a ≠ s + i := fun i hi e => ha (e ▸ q i hi)
    refine ⟨?_, ?_, rfl, rfl, ?_⟩
    · exact (mg_u_ne _ _ (ne 7 (by decide))).trans ((mg_u_ne _ _ (ne 6 (by decide))).trans (mg_u_ne _ _ (ne 5 (by decide))))
    · exact (mg_u_ne _ _ (ne 4 (by decide))).trans ((mg_u_ne _ _ (ne 3 (by decide))).trans (mg_u_ne _ _ (ne 2 (by decide))))
    · exact (mg_u2_ne _ _ _ (ne 0 (by decide))).trans ((mg_u2_ne _ _ _ (ne 0 (by decide))).trans (mg_u2_ne _ _ _ (ne 1 (by decide))))
end CS
abbrev a_A : Type := Nat × Nat × (Nat → Nat) × (Nat → Int32) × (Nat → Int32) × (Nat → List Nat) × (Nat → List Nat) × (Nat → a_T)
abbrev aV (A : a_A) : Nat := A.1
abbrev aF (A : a_A) : Nat := A.2.1
abbrev aD (A : a_A) : Nat → Nat := A.2.2.1
abbrev aC (A : a_A) : Nat → Int32 := A.2.2.2.1
abbrev aP (A : a_A) : Nat → Int32 := A.2.2.2.2.1
abbrev aVN (A : a_A) : Nat → List Nat := A.2.2.2.2.2.1
abbrev aFN (A : a_A) : Nat → List Nat := A.2.2.2.2.2.2.1
abbrev aT (A : a_A) : Nat → a_T := A.2.2.2.2.2.2.2
/-- a state that may stand -/
def aW (A : a_A) : Prop := 1 ≤ aV A ∧ aO (aD A) (aV A) ∧ aF A ≤ 12 ∧ (∀ f, f < aF A → a_per (aV A) (aT A f)) ∧ (∀ v, v < aV A → a_nm7 (aVN A v) ∧ aVN A v ≠ []) ∧ (∀ f, f < aF A → a_nm7 (aFN A f)) ∧ (∀ v, v < aV A → ∃ p, p ≤ 100 ∧ aP A v = Int32.ofNat p)
/-- the class's state at s holds A -/
def cS (G : mg_G) (s : Nat) (A : a_A) : Prop := G.2.2.2.2 (s + 1) 1 = .int (Int32.ofNat (a_wds (aV A))) ∧ G.2.2.2.2 s 6 = .int (Int32.ofNat (aF A)) ∧ G.2.2.2.2 s 7 = .int (Int32.ofNat (aV A)) ∧ (∀ f, f < aF A → cRow G (s + 2) f (a_wds (aV A)) (aT A f)) ∧ (∀ f, f < aF A → G.2.1 (s + 3) f = a_pk (aFN A f)) ∧ (∀ v, v < aV A → G.2.1 (s + 4) v = a_pk (aVN A v)) ∧ (∀ j, j < aV A → G.1 (s + 5) j = Int32.ofNat (aD A j)) ∧ (∀ v, v < aV A → G.1 (s + 6) v = aC A v) ∧ (∀ v, v < aV A → G.1 (s + 7) v = aP A v)
theorem cS.eq {G G' : mg_G} {s t : Nat} {A : a_A} (h : cS G t A) (hA : aW A) (he : sEq G G' t s) : cS G' s A := by
  obtain ⟨h1, h2, h3, h4, h5, h6, h7, h8, h9⟩ := h
  obtain ⟨e1, e2, e3, e4, e5, e6, e7, e8, e9⟩ := he
  obtain ⟨w1, w2, w3, w4, w5, w6⟩ := hA
  have hv8 := w2.2.2.2
  have hn := (a_wds_i (aV A) hv8).1
  exact ⟨e7.trans h1, e8.trans h2, e9.trans h3, fun f hf w hw => (e1 _ (by omega)).trans (h4 f hf w hw), fun f hf => (e2 f (by omega)).trans (h5 f hf), fun v hv => (e3 v (by omega)).trans (h6 v hv), fun j hj => (e4 j (by omega)).trans (h7 j hj), fun v hv => (e5 v (by omega)).trans (h8 v hv), fun v hv => (e6 v (by omega)).trans (h9 v hv)⟩
theorem cS.fr {G G' : mg_G} {s : Nat} {A : a_A} {p : Nat → Prop} (h : cS G s A) (hf : mg_fr p G G') (hp : ∀ a, kQ s a → ¬ p a) : cS G' s A := by
  obtain ⟨h1, h2, h3, h4, h5, h6, h7, h8, h9⟩ := h
  have q : ∀ i, i ≤ 7 → ¬ p (s + i) := fun i hi => hp _ (by unfold kQ; omega)
  exact ⟨(congrFun (hf (s + 1) (q 1 (by decide))).2.2.2.2 1).trans h1, (congrFun (hf s (q 0 (by decide))).2.2.2.2 6).trans h2, (congrFun (hf s (q 0 (by decide))).2.2.2.2 7).trans h3, fun f hf9 w hw => (congrFun (hf (s + 2) (q 2 (by decide))).2.1 _).trans (h4 f hf9 w hw), fun f hf9 => (congrFun (hf (s + 3) (q 3 (by decide))).2.1 _).trans (h5 f hf9), fun v hv => (congrFun (hf (s + 4) (q 4 (by decide))).2.1 _).trans (h6 v hv), fun j hj => (congrFun (hf (s + 5) (q 5 (by decide))).1 _).trans (h7 j hj), fun v hv => (congrFun (hf (s + 6) (q 6 (by decide))).1 _).trans (h8 v hv), fun v hv => (congrFun (hf (s + 7) (q 7 (by decide))).1 _).trans (h9 v hv)⟩
theorem c64A {K : mg_K} {s t : Nat} {G : mg_G} {A : a_A} (d : Nat) (H : kS K s) (Ht : kS K t) (hst : s + 8 ≤ t ∨ t + 8 ≤ s) (hS : cS G t A) (hA : aW A) : mg_m K (d + 1) 64 [.ref s, .ref t] G (fun o k G' => o = .inl none ∧ k = 0 ∧ cS G' s A ∧ mg_fr (kQ s) G G') :=
  mg_m_mono (c64 d H Ht hst hS.1 hS.2.1 hS.2.2.1) (Nat.le_refl _) (fun o k G' ⟨a, b, c, e⟩ => ⟨a, b, hS.eq hA c, e⟩)
