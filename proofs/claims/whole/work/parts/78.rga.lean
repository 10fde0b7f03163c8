/-! REFERENCE: walks over the graph -/
def rGr (G : mg_G) (ord : Nat → Nat) (g : a_Gr) : Prop := G.2.2.2.2 148 16 = .int (Int32.ofNat (gN g)) ∧ (∀ b, b = 156 ∨ b = 157 ∨ b = 158 → G.1 b 0 = Int32.ofInt (-1) ∧ G.1 b 1 = Int32.ofInt (-1)) ∧ ∀ k, 2 ≤ k → k < gN g → G.1 156 k = Int32.ofNat (ord (gL g k)) ∧ G.1 157 k = Int32.ofNat (gO g k) ∧ G.1 158 k = Int32.ofNat (gH g k)
theorem rAll.gr {G G' : mg_G} {ord : Nat → Nat} {nv f : Nat} (h : rAll G ord nv f G') : rGr G' ord (a_gr ord nv (a_all ord nv (a_tb G) f)) := by
  obtain ⟨-, h2, -, h4, h5⟩ := h
  refine ⟨h2.1, h5, fun k hk hl => ?_⟩
  have hl : k < (a_all ord nv (a_tb G) f).length + 2 := hl
  obtain ⟨T, kl, kh, e, h6, e1, e2, h7, e3, h8⟩ := h4 (k - 2) (by omega)
  rw [show k - 2 + 2 = k by omega] at e1 e2 e3
  obtain ⟨g1, g2, g3⟩ := a_gr_at (ord := ord) (nv := nv) (a_all_nd ord nv (a_tb G) f) (a_all_nl ord nv (a_tb G) f) hk e
  rw [g1, g2 kl h7, g3 kh h8]
  exact ⟨e1, e2, e3⟩
theorem rAll.cl {G G' : mg_G} {ord : Nat → Nat} {nv f : Nat} (h : rAll G ord nv f G') : aCl ord nv (a_all ord nv (a_tb G) f) := fun i hi => by
  obtain ⟨T, kl, kh, e, h6, -, -, h7, -, h8⟩ := h.2.2.2.1 i hi
  exact ⟨T, kl, kh, e, h6, h7, h8⟩
def a_nvN : Option Nat → Nat
  | none => 1000
  | some s => s
theorem a_nvN_s {a b : Option Nat} (ha : ∀ s, a = some s → s ≤ 8) (hb : ∀ s, b = some s → s ≤ 8) : a_nvN a ≤ 1000 ∧ a_nvN b ≤ 1000 ∧ a_nvN ((a_omin a b).map (· + 1)) = if (if a_nvN a < a_nvN b then a_nvN a else a_nvN b) = 1000 then 1000 else (if a_nvN a < a_nvN b then a_nvN a else a_nvN b) + 1 := by
  cases a with
  | none =>
    cases b with
    | none => exact ⟨Nat.le_refl _, Nat.le_refl _, rfl⟩
    | some b =>
      have h2 := hb b rfl
      refine ⟨Nat.le_refl _, by show b ≤ 1000; omega, ?_⟩
      show b + 1 = if (if 1000 < b then 1000 else b) = 1000 then 1000 else (if 1000 < b then 1000 else b) + 1
      rw [if_neg (show ¬ 1000 < b by omega), if_neg (by omega)]
  | some a =>
    have h1 := ha a rfl
    cases b with
    | none =>
      refine ⟨by show a ≤ 1000; omega, Nat.le_refl _, ?_⟩
      show a + 1 = if (if a < 1000 then a else 1000) = 1000 then 1000 else (if a < 1000 then a else 1000) + 1
      rw [if_pos (show a < 1000 by omega), if_neg (by omega)]
    | some b =>
      have h2 := hb b rfl
      refine ⟨by show a ≤ 1000; omega, by show b ≤ 1000; omega, ?_⟩
      show (if a < b then a else b) + 1 = if (if a < b then a else b) = 1000 then 1000 else (if a < b then a else b) + 1
      generalize hc : (if a < b then a else b) = c
      have : c ≤ 8 := by
        subst hc
        split <;> omega
      rw [if_neg (by omega)]
theorem mg_n1 {s : Nat} (h : s < 2147483648) : ¬ Int32.ofNat s = Int32.ofInt (-1) := fun e => by
  have h1 : (Int32.ofNat s).toInt = s := Int32.toInt_ofNat_of_lt h
  have h2 := congrArg Int32.toInt e
  rw [h1, show (Int32.ofInt (-1)).toInt = -1 from by decide] at h2
  omega
theorem mg_1000 : (Int16.ofInt 1000).toInt32 = Int32.ofNat 1000 := by decide
theorem mg_8 : (Int8.ofInt 8).toInt32 = Int32.ofNat 8 := by decide
/-- marks in an array of truth values -/
def b2 (b : Bool) : Int32 := if b then 1 else 0
theorem b2_0 (b : Bool) : b2 b = 0 ↔ b = false := by cases b <;> decide
abbrev gM (G : mg_G) (z : Nat) (f : Nat → Int32) : mg_G := (mg_u G.1 z f, G.2)
def gMk (g : a_Gr) (f : Nat → Int32) (M : Nat → Bool) : Prop := ∀ k, k < gN g → f k = b2 (M k)
theorem g_rc_nv {nv : Nat} {g : a_Gr} (hg : gW nv g) {k : Nat} (h2 : 2 ≤ k) (hk : k < gN g) (y : Nat) : g_rc g nv k y = (y == k || g_rc g nv (gO g k) y || g_rc g nv (gH g k) y) := by
  obtain ⟨q1, q2, q3, q4, q5⟩ := hg.2.2.2.2 k h2 hk
  rw [g_rc_m hg nv (nv + 1) k y hk (by omega) (by omega), g_rc_in g nv k y h2]
theorem gCl.add {nv l : Nat} {g : a_Gr} (hg : gW nv g) {M : Nat → Bool} (h : gCl g nv l M) {k : Nat} (hk : k < gN g) : gCl g nv l (fun y => M y || g_rc g nv k y) := by
  intro k2 hk2 hl hM y hy
  have hM : (M k2 || g_rc g nv k k2) = true := hM
  show (M y || g_rc g nv k y) = true
  rcases (Bool.or_eq_true _ _).mp hM with h1 | h1
  · rw [h k2 hk2 hl h1 y hy, Bool.true_or]
  · rw [g_rc_tr hg nv k k2 y hk (by omega) h1 hy, Bool.or_true]
section RM
variable {scr : Nat × (Nat → Int32)} {t : List mg_S} {G : mg_G} {ord : Nat → Nat} {nv : Nat} {g : a_Gr}
theorem r274 (hR : rGr G ord g) (hg : gW nv g) (x : Int32) : ∀ m d k, k < gN g → nv ≤ gL g k + m → mg_m (mg_KM scr t) (d + m + 1) 274 [.ref 148, .int (Int32.ofNat k), .int x] G (mg_v (.int (g_pa g x m k)) G) := by
  have leaf : ∀ d m k, k < 2 → mg_m (mg_KM scr t) (d + 1) 274 [.ref 148, .int (Int32.ofNat k), .int x] G (mg_v (.int (g_pa g x m k)) G) := fun d m k hk => by
    refine mg_me [] 60 my_274 ms_274 (Nat.le_of_ble_eq_true rfl) ?_
    refine ⟨fun h => absurd h (mg_nle (b := 2) hk (by decide)), fun _ => ⟨fun h => ?_, fun h => ?_⟩⟩
    · exact ⟨Or.inl rfl, by rw [g_pa_lf g x m k hk, if_neg h]; rfl, rfl, rfl⟩
    · exact ⟨Or.inl rfl, by rw [g_pa_lf g x m k hk, if_pos h]; rfl, rfl, rfl⟩
  intro m
  induction m with
  | zero =>
    intro d k hk hl
    refine leaf d 0 k (Decidable.byContradiction fun q => ?_)
    have := (hg.2.2.2.2 k (by omega) hk).1
    omega
  | succ m ih =>
    intro d k hk hl
    by_cases h2 : k < 2
    · exact leaf (d + (m + 1)) (m + 1) k h2
    · have h2 : 2 ≤ k := by omega
      have h9 := hg.2.1
      obtain ⟨q1, q2, q3, q4, q5⟩ := hg.2.2.2.2 k h2 hk
      obtain ⟨e1, e2, e3⟩ := hR.2.2 k h2 hk
      refine mg_me [] 60 my_274 ms_274 (Nat.le_of_ble_eq_true rfl) ?_
      refine ⟨fun _ => ?_, fun h => absurd h (mg_nlt (a := 2) h2 (by omega))⟩
      repeat (first | refine ⟨_, mg_Fs rfl rfl, ?_⟩ | refine ⟨_, mg_Fd rfl rfl, ?_⟩ | refine ⟨Or.inl rfl, ?_⟩ | refine ⟨Or.inr ⟨_, rfl⟩, ?_⟩)
      refine ⟨_, _, k, mg_Ai rfl (by decide), mg_ixN (by omega), by omega, ?_⟩
      rw [e2]
      repeat (first | refine ⟨_, mg_Fs rfl rfl, ?_⟩ | refine ⟨_, mg_Fd rfl rfl, ?_⟩ | refine ⟨Or.inl rfl, ?_⟩ | refine ⟨Or.inr ⟨_, rfl⟩, ?_⟩)
      refine mg_cv (ih d _ q2 (by omega)) (by omega) ?_
      repeat (first | refine ⟨_, mg_Fs rfl rfl, ?_⟩ | refine ⟨_, mg_Fd rfl rfl, ?_⟩ | refine ⟨Or.inl rfl, ?_⟩ | refine ⟨Or.inr ⟨_, rfl⟩, ?_⟩)
      refine ⟨_, _, k, mg_Ai rfl (by decide), mg_ixN (by omega), by omega, ?_⟩
      rw [e3]
      repeat (first | refine ⟨_, mg_Fs rfl rfl, ?_⟩ | refine ⟨_, mg_Fd rfl rfl, ?_⟩ | refine ⟨Or.inl rfl, ?_⟩ | refine ⟨Or.inr ⟨_, rfl⟩, ?_⟩)
      refine mg_cv (ih d _ q3 (by omega)) (by omega) ?_
      exact ⟨Or.inl rfl, by rw [g_pa_in g x m k h2], rfl, rfl⟩
theorem r276 (hR : rGr G ord g) (hg : gW nv g) (x : Int32) : ∀ m d k, k < gN g → m ≤ 8 → nv ≤ gL g k + m → mg_m (mg_KM scr t) (d + m + 1) 276 [.ref 148, .int (Int32.ofNat k), .int x] G (mg_v (.int (Int32.ofNat (a_nvN (g_sh g x m k)))) G) := by
  have leaf : ∀ d m k, k < 2 → mg_m (mg_KM scr t) (d + 1) 276 [.ref 148, .int (Int32.ofNat k), .int x] G (mg_v (.int (Int32.ofNat (a_nvN (g_sh g x m k)))) G) := fun d m k hk => by
    refine mg_me [] 60 my_276 ms_276 (Nat.le_of_ble_eq_true rfl) ?_
    refine ⟨fun h => absurd h (mg_nle (b := 2) hk (by decide)), fun _ => ⟨fun h => ?_, fun h => ?_⟩⟩
    · exact ⟨Or.inl rfl, by rw [g_sh_lf g x m k hk, if_neg h]; rfl, rfl, rfl⟩
    · exact ⟨Or.inl rfl, by rw [g_sh_lf g x m k hk, if_pos h]; rfl, rfl, rfl⟩
  intro m
  induction m with
  | zero =>
    intro d k hk _ hl
    refine leaf d 0 k (Decidable.byContradiction fun q => ?_)
    have := (hg.2.2.2.2 k (by omega) hk).1
    omega
  | succ m ih =>
    intro d k hk hm hl
    by_cases h2 : k < 2
    · exact leaf (d + (m + 1)) (m + 1) k h2
    · have h2 : 2 ≤ k := by omega
      have h9 := hg.2.1
      obtain ⟨q1, q2, q3, q4, q5⟩ := hg.2.2.2.2 k h2 hk
      obtain ⟨e1, e2, e3⟩ := hR.2.2 k h2 hk
      obtain ⟨s1, s2, s3⟩ := a_nvN_s (a := g_sh g x m (gO g k)) (b := g_sh g x m (gH g k)) (fun s hs => Nat.le_trans (g_sh_le g x m _ s hs) (by omega)) (fun s hs => Nat.le_trans (g_sh_le g x m _ s hs) (by omega))
      rw [← g_sh_in g x m k h2] at s3
      refine mg_me [] 60 my_276 ms_276 (Nat.le_of_ble_eq_true rfl) ?_

      refine ⟨fun _ => ?_, fun h => absurd h (mg_nlt (a := 2) h2 (by omega))⟩
      repeat (first | refine ⟨_, mg_Fs rfl rfl, ?_⟩ | refine ⟨_, mg_Fd rfl rfl, ?_⟩ | refine ⟨Or.inl rfl, ?_⟩ | refine ⟨Or.inr ⟨_, rfl⟩, ?_⟩)
      refine ⟨_, _, k, mg_Ai rfl (by decide), mg_ixN (by omega), by omega, ?_⟩
      rw [e2]
      repeat (first | refine ⟨_, mg_Fs rfl rfl, ?_⟩ | refine ⟨_, mg_Fd rfl rfl, ?_⟩ | refine ⟨Or.inl rfl, ?_⟩ | refine ⟨Or.inr ⟨_, rfl⟩, ?_⟩)
      refine mg_cv (ih d _ q2 (by omega) (by omega)) (by omega) ?_
      repeat (first | refine ⟨_, mg_Fs rfl rfl, ?_⟩ | refine ⟨_, mg_Fd rfl rfl, ?_⟩ | refine ⟨Or.inl rfl, ?_⟩ | refine ⟨Or.inr ⟨_, rfl⟩, ?_⟩)
      refine ⟨_, _, k, mg_Ai rfl (by decide), mg_ixN (by omega), by omega, ?_⟩
      rw [e3]
      repeat (first | refine ⟨_, mg_Fs rfl rfl, ?_⟩ | refine ⟨_, mg_Fd rfl rfl, ?_⟩ | refine ⟨Or.inl rfl, ?_⟩ | refine ⟨Or.inr ⟨_, rfl⟩, ?_⟩)
      refine mg_cv (ih d _ q3 (by omega) (by omega)) (by omega) ?_
      refine ⟨fun h => ⟨fun h3 => ?_, fun h3 => ?_⟩, fun h => ⟨fun h3 => ?_, fun h3 => ?_⟩⟩
      · have h := (mg_leN (by omega) (by omega)).mp h
        have h3 : ¬ a_nvN (g_sh g x m (gH g k)) = 1000 := fun q => h3 (by rw [q]; rfl)
        refine ⟨Or.inl rfl, ?_, rfl, rfl⟩
        rw [s3, if_neg (show ¬ a_nvN (g_sh g x m (gO g k)) < a_nvN (g_sh g x m (gH g k)) by omega), if_neg h3, ← mg_inc]
      · have h := (mg_leN (by omega) (by omega)).mp h
        have h3 := (mg_eqN (b := 1000) (by omega) (by decide)).mp h3
        refine ⟨Or.inl rfl, ?_, rfl, rfl⟩
        rw [s3, if_neg (show ¬ a_nvN (g_sh g x m (gO g k)) < a_nvN (g_sh g x m (gH g k)) by omega), if_pos h3] <;> rfl
      · have h := (mg_ltN (by omega) (by omega)).mp h
        have h3 : ¬ a_nvN (g_sh g x m (gO g k)) = 1000 := fun q => h3 (by rw [q]; rfl)
        refine ⟨Or.inl rfl, ?_, rfl, rfl⟩
        rw [s3, if_pos h, if_neg h3, ← mg_inc]
      · have h := (mg_ltN (by omega) (by omega)).mp h
        have h3 := (mg_eqN (b := 1000) (by omega) (by decide)).mp h3
        refine ⟨Or.inl rfl, ?_, rfl, rfl⟩
        rw [s3, if_pos h, if_pos h3] <;> rfl
theorem r278 (hR : rGr G ord g) (hg : gW nv g) : ∀ m d k, k < gN g → m ≤ 8 → nv ≤ gL g k + m → mg_m (mg_KM scr t) (d + m + 1) 278 [.ref 148, .int (Int32.ofNat k)] G (mg_v (.int (Int32.ofNat (g_lo g m k))) G) := by
  have leaf : ∀ d m k, k < 2 → mg_m (mg_KM scr t) (d + 1) 278 [.ref 148, .int (Int32.ofNat k)] G (mg_v (.int (Int32.ofNat (g_lo g m k))) G) := fun d m k hk => by
    refine mg_me [] 60 my_278 ms_278 (Nat.le_of_ble_eq_true rfl) ?_
    refine ⟨fun h => absurd h (mg_nle (b := 2) hk (by decide)), fun _ => ?_⟩
    exact ⟨Or.inl rfl, by rw [g_lo_lf g m k hk]; rfl, rfl, rfl⟩
  intro m
  induction m with
  | zero =>
    intro d k hk _ hl
    refine leaf d 0 k (Decidable.byContradiction fun q => ?_)
    have := (hg.2.2.2.2 k (by omega) hk).1
    omega
  | succ m ih =>
    intro d k hk hm hl
    by_cases h2 : k < 2
    · exact leaf (d + (m + 1)) (m + 1) k h2
    · have h2 : 2 ≤ k := by omega
      have h9 := hg.2.1
      obtain ⟨q1, q2, q3, q4, q5⟩ := hg.2.2.2.2 k h2 hk
      obtain ⟨e1, e2, e3⟩ := hR.2.2 k h2 hk
      have s1 := g_lo_le g m (gO g k)
      have s2 := g_lo_le g m (gH g k)
      refine mg_me [] 60 my_278 ms_278 (Nat.le_of_ble_eq_true rfl) ?_
      refine ⟨fun _ => ?_, fun h => absurd h (mg_nlt (a := 2) h2 (by omega))⟩
      repeat (first | refine ⟨_, mg_Fs rfl rfl, ?_⟩ | refine ⟨_, mg_Fd rfl rfl, ?_⟩ | refine ⟨Or.inl rfl, ?_⟩ | refine ⟨Or.inr ⟨_, rfl⟩, ?_⟩)
      refine ⟨_, _, k, mg_Ai rfl (by decide), mg_ixN (by omega), by omega, ?_⟩
      rw [e2]
      repeat (first | refine ⟨_, mg_Fs rfl rfl, ?_⟩ | refine ⟨_, mg_Fd rfl rfl, ?_⟩ | refine ⟨Or.inl rfl, ?_⟩ | refine ⟨Or.inr ⟨_, rfl⟩, ?_⟩)
      refine mg_cv (ih d _ q2 (by omega) (by omega)) (by omega) ?_
      repeat (first | refine ⟨_, mg_Fs rfl rfl, ?_⟩ | refine ⟨_, mg_Fd rfl rfl, ?_⟩ | refine ⟨Or.inl rfl, ?_⟩ | refine ⟨Or.inr ⟨_, rfl⟩, ?_⟩)
      refine ⟨_, _, k, mg_Ai rfl (by decide), mg_ixN (by omega), by omega, ?_⟩
      rw [e3]
      repeat (first | refine ⟨_, mg_Fs rfl rfl, ?_⟩ | refine ⟨_, mg_Fd rfl rfl, ?_⟩ | refine ⟨Or.inl rfl, ?_⟩ | refine ⟨Or.inr ⟨_, rfl⟩, ?_⟩)
      refine mg_cv (ih d _ q3 (by omega) (by omega)) (by omega) ?_
      refine ⟨fun h => ?_, fun h => ?_⟩
      · have h := (mg_leN (by omega) (by omega)).mp h
        refine ⟨Or.inl rfl, ?_, rfl, rfl⟩
        rw [g_lo_in g m k h2, if_neg (by omega), ← mg_inc]
      · have h := (mg_ltN (by omega) (by omega)).mp h
        refine ⟨Or.inl rfl, ?_, rfl, rfl⟩
        rw [g_lo_in g m k h2, if_pos h, ← mg_inc]
theorem gCl.mono {nv l l' : Nat} {g : a_Gr} {M : Nat → Bool} (h : gCl g nv l M) (hl : l ≤ l') : gCl g nv l' M := fun k hk h2 => h k hk (Nat.le_trans hl h2)
theorem gM_A (G : mg_G) {K : mg_K} {z n : Nat} (f : Nat → Int32) (hK : K.2[z]? = some (.inl (3, n))) (hz : z < 1000000) : mg_A K (gM G z f) z 3 n (.inl f) := by
  have := mg_Az (G := gM G z f) hK hz
  rwa [show (gM G z f).1 z = f from mg_u_eq _ _ _] at this
theorem gM_u (G : mg_G) (z k : Nat) (f : Nat → Int32) (x : Int32) : ((mg_u2 (mg_u G.1 z f) z k x, G.2) : mg_G) = gM G z (mg_u f k x) := by rw [mg_u2_u]
theorem r202 (hR : rGr G ord g) (hg : gW nv g) (z : Nat) (hz : z = 162 ∨ z = 163) : ∀ m d k f M, k < gN g → nv ≤ gL g k + m → gMk g f M → gCl g nv (gL g k) M → mg_m (mg_KM scr t) (d + m + 1) 202 [.ref 148, .int (Int32.ofNat k), .ref z] (gM G z f) (fun o q G' => o = .inl none ∧ q = 0 ∧ ∃ f', G' = gM G z f' ∧ gMk g f' (fun y => M y || g_rc g nv k y)) := by
  have hK : (mg_KM scr t).2[z]? = some (.inl (3, 1000)) := by rcases hz with rfl | rfl <;> rfl
  have hzl : z < 1000000 := by omega
  have h9 := hg.2.1
  have key : ∀ m d k f M, k < gN g → gMk g f M → gCl g nv (gL g k) M → (2 ≤ k → M k = false → ∃ m', m = m' + 1 ∧ ∀ d k f M, k < gN g → nv ≤ gL g k + m' → gMk g f M → gCl g nv (gL g k) M → mg_m (mg_KM scr t) (d + m' + 1) 202 [.ref 148, .int (Int32.ofNat k), .ref z] (gM G z f) (fun o q G' => o = .inl none ∧ q = 0 ∧ ∃ f', G' = gM G z f' ∧ gMk g f' (fun y => M y || g_rc g nv k y))) → nv ≤ gL g k + m → mg_m (mg_KM scr t) (d + m + 1) 202 [.ref 148, .int (Int32.ofNat k), .ref z] (gM G z f) (fun o q G' => o = .inl none ∧ q = 0 ∧ ∃ f', G' = gM G z f' ∧ gMk g f' (fun y => M y || g_rc g nv k y)) := by
    intro m d k f M hk hf hC hrec hl
    refine mg_me [] 60 my_202 ms_202 (Nat.le_of_ble_eq_true rfl) ?_
    refine ⟨3, 1000, f, k, gM_A G f hK hzl, Or.inr rfl, mg_ixN (by omega), by omega, ?_⟩
    rw [hf k hk]
    cases hM : M k with
    | true =>
      refine ⟨fun h => absurd h (by decide), fun _ => ⟨rfl, rfl, f, rfl, fun y hy => ?_⟩⟩
      rw [hf y hy]
      show b2 (M y) = b2 (M y || g_rc g nv k y)
      cases e : g_rc g nv k y with
      | false => rw [Bool.or_false]
      | true => rw [hC k hk (Nat.le_refl _) hM y e, Bool.true_or]
    | false =>
      have hM1 : gMk g (mg_u f k 1) (fun y => M y || y == k) := fun y hy => by
        by_cases e : y = k
        · subst e
          rw [mg_u_eq]
          show 1 = b2 (M y || y == y)
          rw [beq_self_eq_true, Bool.or_true]
          rfl
        · rw [mg_u_ne _ _ e, hf y hy]
          show b2 (M y) = b2 (M y || y == k)
          rw [show (y == k) = false from beq_eq_false_iff_ne.mpr e, Bool.or_false]
      refine ⟨fun _ => ?_, fun h => absurd rfl h⟩
      refine ⟨3, 1000, k, hK, mg_ixN (by omega), by omega, Or.inr rfl, fun h2 => ?_, fun h2 => ?_⟩
      · have h2 : 2 ≤ k := (mg_leN (a := 2) (by decide) (by omega)).mp h2
        obtain ⟨q1, q2, q3, q4, q5⟩ := hg.2.2.2.2 k h2 hk
        obtain ⟨e1, e2, e3⟩ := hR.2.2 k h2 hk
        obtain ⟨m', rfl, ih⟩ := hrec h2 hM
        have hC1 : gCl g nv (gL g k + 1) (fun y => M y || y == k) := fun k2 hk2 hl2 hM2 y hy => by
          have hM2 : (M k2 || k2 == k) = true := hM2
          have e : k2 ≠ k := fun e => by subst e; omega
          rw [show (k2 == k) = false from beq_eq_false_iff_ne.mpr e, Bool.or_false] at hM2
          show (M y || y == k) = true
          rw [hC k2 hk2 (by omega) hM2 y hy, Bool.true_or]
        have k1 : mg_m (mg_KM scr t) (d + m' + 1) 202 [.ref 148, .int ((mg_u2 (mg_u G.1 z f) z k 1) 157 k), .ref z] (mg_u2 (mg_u G.1 z f) z k 1, G.2) (fun o q G' => o = .inl none ∧ q = 0 ∧ ∃ f', G' = gM G z f' ∧ gMk g f' (fun y => (M y || y == k) || g_rc g nv (gO g k) y)) := by
          rw [mg_u2_ne _ _ _ (show 157 ≠ z by omega), mg_u_ne _ _ (show 157 ≠ z by omega), e2, gM_u]
          exact ih d (gO g k) _ _ q2 (by omega) hM1 (hC1.mono (by omega))
        repeat (first | refine ⟨_, mg_Fs rfl rfl, ?_⟩ | refine ⟨_, mg_Fd rfl rfl, ?_⟩ | refine ⟨Or.inl rfl, ?_⟩ | refine ⟨Or.inr ⟨_, rfl⟩, ?_⟩)
        refine ⟨_, _, k, mg_Ai rfl (by decide), mg_ixN (by omega), by omega, ?_⟩
        repeat (first | refine ⟨_, mg_Fs rfl rfl, ?_⟩ | refine ⟨_, mg_Fd rfl rfl, ?_⟩ | refine ⟨Or.inl rfl, ?_⟩ | refine ⟨Or.inr ⟨_, rfl⟩, ?_⟩)
        refine mg_m_mono k1 (by omega) ?_
        rintro o q G' ⟨rfl, rfl, f2, rfl, hf2⟩
        have k2 : mg_m (mg_KM scr t) (d + m' + 1) 202 [.ref 148, .int ((mg_u G.1 z f2) 158 k), .ref z] (gM G z f2) (fun o q G' => o = .inl none ∧ q = 0 ∧ ∃ f', G' = gM G z f' ∧ gMk g f' (fun y => ((M y || y == k) || g_rc g nv (gO g k) y) || g_rc g nv (gH g k) y)) := by
          rw [mg_u_ne _ _ (show 158 ≠ z by omega), e3]
          exact ih d (gH g k) _ _ q3 (by omega) hf2 ((hC1.add hg q2).mono (by omega))
        repeat (first | refine ⟨_, mg_Fs rfl rfl, ?_⟩ | refine ⟨_, mg_Fd rfl rfl, ?_⟩ | refine ⟨Or.inl rfl, ?_⟩ | refine ⟨Or.inr ⟨_, rfl⟩, ?_⟩)
        refine ⟨_, _, k, mg_Ai rfl (by decide), mg_ixN (by omega), by omega, ?_⟩
        repeat (first | refine ⟨_, mg_Fs rfl rfl, ?_⟩ | refine ⟨_, mg_Fd rfl rfl, ?_⟩ | refine ⟨Or.inl rfl, ?_⟩ | refine ⟨Or.inr ⟨_, rfl⟩, ?_⟩)
        refine mg_m_mono k2 (by omega) ?_
        rintro o q G' ⟨rfl, rfl, f3, rfl, hf3⟩
        refine ⟨rfl, rfl, f3, rfl, fun y hy => ?_⟩
        rw [hf3 y hy]
        show b2 (M y || y == k || g_rc g nv (gO g k) y || g_rc g nv (gH g k) y) = b2 (M y || g_rc g nv k y)
        rw [g_rc_nv hg h2 hk y]
        simp only [Bool.or_assoc]
      · have h2 : k < 2 := (mg_ltN (b := 2) (by omega) (by decide)).mp h2
        refine ⟨rfl, rfl, _, gM_u G z k f 1, fun y hy => ?_⟩
        rw [hM1 y hy]
        show b2 (M y || y == k) = b2 (M y || g_rc g nv k y)
        rw [g_rc_lf g nv k y h2]
  intro m
  induction m with
  | zero =>
    intro d k f M hk hl hf hC
    refine key 0 d k f M hk hf hC (fun h2 _ => ?_) hl
    have := (hg.2.2.2.2 k h2 hk).1
    omega
  | succ m ih =>
    intro d k f M hk hl hf hC
    exact key (m + 1) d k f M hk hf hC (fun _ _ => ⟨m, rfl, ih⟩) hl
theorem r203 (hR : rGr G ord g) (hg : gW nv g) (z : Nat) (hz : z = 162 ∨ z = 163) (d f rt : Nat) (hf : f < 12) (hrt : G.1 159 f = Int32.ofNat rt) (hk : rt < gN g) : mg_m (mg_KM scr t) (d + nv + 2) 203 [.ref 148, .int (Int32.ofNat f), .ref z] G (fun o q G' => o = .inl none ∧ q = 0 ∧ ∃ f', G' = gM G z f' ∧ gMk g f' (g_rc g nv rt)) := by
  have hK : (mg_KM scr t).2[z]? = some (.inl (3, 1000)) := by rcases hz with rfl | rfl <;> rfl
  have h9 := hg.2.1
  refine mg_me [2] 10 my_203 ms_203 (Nat.le_of_ble_eq_true rfl) ?_
  refine mg_loop (gN g) (fun k L G' => L = [some (.ref 148), some (.int (Int32.ofNat f)), some (.ref z), some (.int (Int32.ofNat k))] ∧ ∃ f', G' = gM G z f' ∧ ∀ y, y < k → f' y = 0) ?_ ?_ _ _ ⟨rfl, G.1 z, by show G = (mg_u G.1 z (G.1 z), G.2); rw [mg_u_id], fun y h => absurd h (Nat.not_lt_zero _)⟩
  · rintro k L G' hk2 ⟨rfl, f', rfl, hf'⟩ ih
    refine mg_go [2] 60 2 ms_203 ?_
    refine ⟨_, mg_Fe hR.1 rfl rfl, fun h => absurd h (mg_nle hk2 (by omega)), fun _ => ?_⟩
    refine ⟨3, 1000, k, hK, mg_ixN (by omega), by omega, Or.inr rfl, ih _ _ ⟨by rw [← mg_inc k], _, gM_u G z k f' 0, fun y hy => ?_⟩⟩
    by_cases e : y = k
    · subst e
      exact mg_u_eq _ _ _
    · rw [mg_u_ne _ _ e]
      exact hf' y (by omega)
  · rintro L G' ⟨rfl, f', rfl, hf'⟩
    have k1 : mg_m (mg_KM scr t) (d + nv + 1) 202 [.ref 148, .int ((mg_u G.1 z f') 159 f), .ref z] (gM G z f') (fun o q G' => o = .inl none ∧ q = 0 ∧ ∃ f', G' = gM G z f' ∧ gMk g f' (fun y => false || g_rc g nv rt y)) := by
      rw [mg_u_ne _ _ (show 159 ≠ z by omega), hrt]
      exact r202 hR hg z hz nv d rt f' (fun _ => false) hk (by omega) (fun y hy => hf' y hy) (fun k2 _ _ h => absurd (show false = true from h) (by decide))
    refine mg_go [2] 60 2 ms_203 ?_
    refine ⟨_, mg_Fe hR.1 rfl rfl, fun _ => ?_, fun h => absurd h (Int32.not_lt.mpr (Int32.le_refl _))⟩
    repeat (first | refine ⟨_, mg_Fs rfl rfl, ?_⟩ | refine ⟨_, mg_Fd rfl rfl, ?_⟩ | refine ⟨Or.inl rfl, ?_⟩ | refine ⟨Or.inr ⟨_, rfl⟩, ?_⟩)
    refine ⟨_, _, f, mg_Ai rfl (by decide), mg_ixN (by omega), hf, ?_⟩
    repeat (first | refine ⟨_, mg_Fs rfl rfl, ?_⟩ | refine ⟨_, mg_Fd rfl rfl, ?_⟩ | refine ⟨Or.inl rfl, ?_⟩ | refine ⟨Or.inr ⟨_, rfl⟩, ?_⟩)
    refine mg_m_mono k1 (by omega) ?_
    rintro o q G' ⟨rfl, rfl, f3, rfl, hf3⟩
    exact ⟨rfl, rfl, f3, rfl, fun y hy => by rw [hf3 y hy]; show b2 (false || g_rc g nv rt y) = _; rw [Bool.false_or]⟩
theorem r204 (hR : rGr G ord g) (hg : gW nv g) (d f rt : Nat) (hf : f < 12) (hrt : G.1 159 f = Int32.ofNat rt) (hk : rt < gN g) : mg_m (mg_KM scr t) (d + nv + 3) 204 [.ref 148, .int (Int32.ofNat f)] G (fun o q G' => o = .inl (some (.int (a_sum (fun i => b2 (g_rc g nv rt (i + 2))) (gN g - 2)))) ∧ q = 0 ∧ ∃ f', G' = gM G 162 f') := by
  have h9 := hg.2.1
  have h0 := hg.1
  refine mg_me [13] 10 my_204 ms_204 (Nat.le_of_ble_eq_true rfl) ?_
  repeat (first | refine ⟨_, mg_Fs rfl rfl, ?_⟩ | refine ⟨_, mg_Fd rfl rfl, ?_⟩ | refine ⟨Or.inl rfl, ?_⟩ | refine ⟨Or.inr ⟨_, rfl⟩, ?_⟩)
  refine mg_m_mono (r203 hR hg 162 (Or.inl rfl) d f rt hf hrt hk) (by omega) ?_
  rintro o q G' ⟨rfl, rfl, f', rfl, hf'⟩
  refine mg_loop (gN g - 2) (fun k L G' => L = [some (.ref 148), some (.int (Int32.ofNat f)), some (.int (a_sum (fun i => b2 (g_rc g nv rt (i + 2))) k)), some (.int (Int32.ofNat (k + 2)))] ∧ G' = gM G 162 f') ?_ ?_ _ _ ⟨rfl, rfl⟩
  · rintro k L G' hk2 ⟨rfl, rfl⟩ ih
    refine mg_go [13] 60 13 ms_204 ?_
    refine ⟨_, mg_Fe hR.1 rfl rfl, fun h => absurd h (mg_nle (by omega) (by omega)), fun _ => ?_⟩
    repeat (first | refine ⟨_, mg_Fs rfl rfl, ?_⟩ | refine ⟨_, mg_Fd rfl rfl, ?_⟩ | refine ⟨Or.inl rfl, ?_⟩ | refine ⟨Or.inr ⟨_, rfl⟩, ?_⟩)
    refine ⟨3, 1000, f', k + 2, gM_A G f' rfl (by decide), Or.inr rfl, mg_ixN (by omega), by omega, ?_⟩
    rw [hf' (k + 2) (by omega)]
    cases e : g_rc g nv rt (k + 2) with
    | true => exact ⟨fun h => absurd h (by decide), fun _ => ih _ _ ⟨by rw [← mg_inc (k + 2)]; show (_ : mm_L) = [_, _, some (.int (a_sum (fun i => b2 (g_rc g nv rt (i + 2))) k + b2 (g_rc g nv rt (k + 2)))), _]; rw [e]; rfl, rfl⟩⟩
    | false => exact ⟨fun _ => ih _ _ ⟨by rw [← mg_inc (k + 2)]; show (_ : mm_L) = [_, _, some (.int (a_sum (fun i => b2 (g_rc g nv rt (i + 2))) k + b2 (g_rc g nv rt (k + 2)))), _]; rw [e]; rfl, rfl⟩, fun h => absurd rfl h⟩
  · rintro L G' ⟨rfl, rfl⟩
    refine mg_go [13] 60 13 ms_204 ?_
    refine ⟨_, mg_Fe hR.1 rfl rfl, fun _ => ⟨Or.inl rfl, rfl, rfl, f', rfl⟩, fun h => ?_⟩
    have := (mg_ltN (by omega) (by omega)).mp h
    omega
end RM
