/-- only the places of p are changed -/
def mg_fr (p : Nat → Prop) (G G' : mg_G) : Prop := ∀ a, ¬ p a → G'.1 a = G.1 a ∧ G'.2.1 a = G.2.1 a ∧ G'.2.2.1 a = G.2.2.1 a ∧ G'.2.2.2.1 a = G.2.2.2.1 a ∧ G'.2.2.2.2 a = G.2.2.2.2 a
theorem mg_fr.rf (p : Nat → Prop) (G : mg_G) : mg_fr p G G := fun _ _ => ⟨rfl, rfl, rfl, rfl, rfl⟩
theorem mg_fr.tr {p : Nat → Prop} {G G' G'' : mg_G} (h : mg_fr p G G') (h2 : mg_fr p G' G'') : mg_fr p G G'' := fun a ha => by
  obtain ⟨a1, a2, a3, a4, a5⟩ := h a ha
  obtain ⟨b1, b2, b3, b4, b5⟩ := h2 a ha
  exact ⟨b1.trans a1, b2.trans a2, b3.trans a3, b4.trans a4, b5.trans a5⟩
theorem mg_fr.mono {p q : Nat → Prop} {G G' : mg_G} (h : mg_fr p G G') (hpq : ∀ a, p a → q a) : mg_fr q G G' := fun a ha => h a (fun hp => ha (hpq a hp))
theorem mg_fr.sI {p : Nat → Prop} (G : mg_G) {a : Nat} (k : Nat) (x : Int32) (ha : p a) : mg_fr p G (mg_sI G a k x) := fun b hb => ⟨mg_u2_ne _ _ _ (fun e => hb (e ▸ ha)), rfl, rfl, rfl, rfl⟩
theorem mg_fr.sJ {p : Nat → Prop} (G : mg_G) {a : Nat} (k : Nat) (x : Int64) (ha : p a) : mg_fr p G (mg_sJ G a k x) := fun b hb => ⟨rfl, mg_u2_ne _ _ _ (fun e => hb (e ▸ ha)), rfl, rfl, rfl⟩
theorem mg_fr.sF {p : Nat → Prop} (G : mg_G) {a : Nat} (k : Nat) (x : Value) (ha : p a) : mg_fr p G (mg_sF G a k x) := fun b hb => ⟨rfl, rfl, rfl, rfl, mg_u2_ne _ _ _ (fun e => hb (e ▸ ha))⟩
theorem mg_fr.cW {p : Nat → Prop} (G : mg_G) {b : Nat} (r n : Nat) (g : Nat → Int64) (ha : p b) : mg_fr p G (cW G b r n g) := fun c hc => ⟨rfl, mg_u_ne _ _ (fun e => hc (e ▸ ha)), rfl, rfl, rfl⟩
theorem mg_fr.u1 {p : Nat → Prop} (G : mg_G) {b : Nat} (f : Nat → Int32) (ha : p b) : mg_fr p G (mg_u G.1 b f, G.2) := fun c hc => ⟨mg_u_ne _ _ (fun e => hc (e ▸ ha)), rfl, rfl, rfl, rfl⟩
theorem c341 {K : mg_K} (d a n : Nat) (x : Int32) (G : mg_G) (h : K.2[a]? = some (.inl (0, n))) (ha : a < 1000000) (hn : n < 1000000) : mg_m K (d + 1) 341 [.ref a, .int x] G (mg_n (mg_u G.1 a (fun i => if i < n then x else G.1 a i), G.2)) := by
  refine mg_me [5] 20 my_341 ms_341 (Nat.le_of_ble_eq_true rfl) ?_
  refine ⟨_, _, _, mg_Ai h ha, by decide, ?_⟩
  refine mg_loop n (fun k L G' => L = [some (.ref a), some (.int x), some (.int (Int32.ofNat k)), some (.int (Int32.ofNat n))] ∧ G' = (mg_u G.1 a (fun i => if i < k then x else G.1 a i), G.2)) ?_ ?_ _ _ ⟨rfl, ?_⟩
  · rintro k L G' hk ⟨rfl, rfl⟩ ih
    refine mg_go [5] 40 5 ms_341 ?_
    refine ⟨fun h => absurd h (mg_nle hk (by omega)), fun _ => ⟨n, k, h, mg_ixN (by omega), hk, ih _ _ ⟨by rw [← mg_inc k], ?_⟩⟩⟩
    show (mg_u2 (mg_u G.1 a (fun i => if i < k then x else G.1 a i)) a k x, G.2) = _
    rw [mg_u2_u]
    congr 2
    funext i
    by_cases hi : i = k
    · subst hi
      rw [mg_u_eq, if_pos (Nat.lt_succ_self _)]
    · rw [mg_u_ne _ _ hi]
      by_cases h3 : i < k
      · rw [if_pos h3, if_pos (by omega)]
      · rw [if_neg h3, if_neg (by omega)]
  · rintro L G' ⟨rfl, rfl⟩
    refine mg_go [5] 40 5 ms_341 ?_
    exact ⟨fun _ => ⟨rfl, rfl, rfl⟩, fun h => absurd h (Int32.not_lt.mpr (Int32.le_refl _))⟩
  · have e : (fun i => if i < 0 then x else G.1 a i) = G.1 a := by funext j; rfl
    rw [e, mg_u_id]
/-- what a drawing holds -/
def cDr (G : mg_G) (g : Nat) (ord : Nat → Nat) (nv nf n : Nat) (tb : Nat → a_T) (f : Nat) : Prop := cN G g n (a_us (a_all ord nv tb f)) ∧ (∀ q, q < f → ∃ r, G.1 (g + 7) q = Int32.ofNat r ∧ a_nd (a_all ord nv tb f) r (tb q)) ∧ (∀ i, i < (a_all ord nv tb f).length → cC G g ord nv (a_all ord nv tb f) i) ∧ (∀ i, i < 2 → G.1 (g + 3) i = Int32.ofNat nv ∧ G.1 (g + 4) i = Int32.ofInt (-1) ∧ G.1 (g + 5) i = Int32.ofInt (-1)) ∧ G.2.2.2.2 g 9 = .int (Int32.ofNat nf)
section CD
variable {K : mg_K} {g : Nat}
theorem c7 (d : Nat) (H : kD K g) {G : mg_G} {m : Nat} (h : G.2.2.2.2 g 12 = .int (Int32.ofNat (m + 2))) : mg_m K (d + 1) 7 [.ref g] G (mg_v (.int (Int32.ofNat m)) G) := by
  refine mg_me [] 10 my_7 ms_7 (Nat.le_of_ble_eq_true rfl) ?_
  refine ⟨_, H.no h, Or.inl rfl, ?_, rfl, rfl⟩
  show (Sum.inl (some (Value.int (Int32.ofNat (m + 2) - Int32.ofNat 2))) : Option Value ⊕ String) = _
  rw [mg_subN (by omega), Nat.add_sub_cancel]
/-- a new leaf -/
theorem c3_leaf (d : Nat) (H : kD K g) {ord : Nat → Nat} {nv n : Nat} {G : mg_G} {us : List a_T} (hH : cH G g ord nv n) (hN : cN G g n us) (hnd : us.Nodup) (hlen : us.length < 628) (hpu : ∀ U, U ∈ us → a_pw U n) {T : a_T} (hTp : a_pw T n) (hni : T ∉ us) (hT : cRow G (g + 2) us.length n T) : mg_m K (d + 3) 3 [.ref g, .int (Int32.ofNat nv)] G (fun o k G' => k = 0 ∧ o = .inl (some (.int (Int32.ofNat us.length))) ∧ cN G' g n (us ++ [T]) ∧ cFr g us.length G G' ∧ G'.1 (g + 3) us.length = Int32.ofNat nv ∧ G'.1 (g + 4) us.length = Int32.ofInt (-1) ∧ G'.1 (g + 5) us.length = Int32.ofInt (-1)) := by
  have hn := hH.n
  have h8 : nv ≤ 8 := hH.2.2.2.2.2.2.2
  obtain ⟨hNn, hNt, sl, hS, hHs⟩ := hN
  obtain ⟨e0, he0, h0, hne⟩ := a_hs_free hHs (by omega) (a_hC (a_wd T) n)
  have hdg := c90 (K := K) (a := g + 1) (b := g + 2) (G := G) 0 us.length H.T hH.1 (by omega)
  rw [a_hC_c (f := fun w => G.2.1 (g + 2) (4 * us.length + w)) (g := a_wd T) (fun w hw => hT w hw)] at hdg
  refine mg_me [14] 30 my_3 ms_3 (Nat.le_of_ble_eq_true rfl) ?_
  refine ⟨_, H.t, _, H.no hNn, Or.inr H.T.is, mg_cv hdg (by omega) ?_⟩
  have key := c3_sl (K := K) (d + 1) H hH.1 hn (by omega) hNn hNt hS hHs hpu T hT hTp (Int32.ofNat nv) he0 h0 hne (Q := fun o k G' => k = 0 ∧ o = .inl (some (.int (Int32.ofNat us.length))) ∧ cN G' g n (us ++ [T]) ∧ cFr g us.length G G' ∧ G'.1 (g + 3) us.length = Int32.ofNat nv ∧ G'.1 (g + 4) us.length = Int32.ofInt (-1) ∧ G'.1 (g + 5) us.length = Int32.ofInt (-1)) (fun i hi => absurd (List.mem_of_getElem? hi) hni) ?kn hnd e0 0 (by omega) (fun e2 h2 => by omega)
  · rw [Nat.add_zero (a_hC (a_wd T) n), Nat.mod_eq_of_lt (a_hC_lt _ _)] at key
    exact key
  case kn =>
    intro _
    have hq : (a_hC (a_wd T) n + e0) % 1024 < 1024 := Nat.mod_lt _ (by decide)
    have hF1 := cG1_fr G g ((a_hC (a_wd T) n + e0) % 1024) us.length us.length
    have hN1 := cG1_N hNt hS hHs hT he0 h0 hne
    refine c3_x (d + 1) us.length _ nv H hlen hq h8 _ G hNn hH.2.2.1 ?_
    generalize cG1 G g ((a_hC (a_wd T) n + e0) % 1024) us.length = G1 at hF1 hN1 ⊢
    refine ⟨rfl, rfl, ((hN1.i (Or.inl rfl)).i (Or.inr (Or.inl rfl))).i (Or.inr (Or.inr rfl)), ((hF1.tr (cFr.i (Or.inl rfl) (Nat.le_refl _)) (Nat.le_refl _)).tr (cFr.i (Or.inr (Or.inl rfl)) (Nat.le_refl _)) (Nat.le_refl _)).tr (cFr.i (Or.inr (Or.inr rfl)) (Nat.le_refl _)) (Nat.le_refl _), ?_, ?_, ?_⟩
    · rw [mg_sI_at, if_neg (by omega), mg_sI_at, if_neg (by omega), mg_sI_at, if_pos ⟨rfl, rfl⟩]
    · rw [mg_sI_at, if_neg (by omega), mg_sI_at, if_pos ⟨rfl, rfl⟩]
    · rw [mg_sI_at, if_pos ⟨rfl, rfl⟩]
def kP (g a : Nat) : Prop := g ≤ a ∧ a ≤ g + 10 ∧ a ≠ g + 6 ∧ a ≠ g + 8 ∧ a ≠ g + 10
theorem cFr.fr {g m : Nat} {G G' : mg_G} (h : cFr g m G G') : mg_fr (kP g) G G' := fun a ha => by
  unfold kP at ha
  exact ⟨h.1 a (by omega) (by omega) (by omega) (by omega), h.2.2.1 a (by omega), congrFun h.2.2.2.2.1 a, congrFun h.2.2.2.2.2.1 a, funext fun k => h.2.2.2.2.2.2 a k (by omega)⟩
end CD
