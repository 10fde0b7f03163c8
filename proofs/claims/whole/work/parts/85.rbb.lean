/-! REFERENCE: the stack of tables -/
def a_tb4 (f : Nat → Int64) : a_T := (f 0, f 1, f 2, f 3)
theorem a_wd4 (f : Nat → Int64) (w : Nat) (hw : w < 4) : a_wd (a_tb4 f) w = f w := by
  rcases (show w = 0 ∨ w = 1 ∨ w = 2 ∨ w = 3 by omega) with rfl | rfl | rfl | rfl <;> rfl
def a_op (op : Int32) (x y : a_T) : a_T := a_tb4 fun w => a_comb op (a_wd x w) (a_wd y w)
def a_sel (c x y : a_T) : a_T := a_tb4 fun w => (a_wd c w &&& a_wd x w) ||| ((a_wd c w ^^^ (-1 : Int64)) &&& a_wd y w)
def a_not (x : a_T) : a_T := a_tb4 fun w => a_wd x w ^^^ (-1 : Int64)
def a_qu (all : Bool) (v : Nat) (x : a_T) : a_T := a_op (if all then 0 else 1) (a_cf x v false) (a_cf x v true)
def a_var (v : Nat) : a_T := a_tb4 (a_vw v)
def rK (G : mg_G) (ts : List a_T) : Prop := G.2.2.2.2 148 28 = .int (Int32.ofNat ts.length) ∧ ∀ i T, ts[i]? = some T → cRow G 164 i 4 T
theorem mg_4a (n k : Nat) : Int32.ofInt 4 * Int32.ofNat n + Int32.ofNat k = Int32.ofNat (4 * n + k) := by
  rw [Int32.ofNat_add, Int32.ofNat_mul]
  rfl
theorem mg_4b (n : Nat) : Int32.ofInt 4 * Int32.ofNat (n + 1) - Int32.ofInt 4 = Int32.ofNat (4 * n) := by
  rw [show Int32.ofInt 4 * Int32.ofNat (n + 1) = Int32.ofNat (4 * (n + 1)) from by rw [Int32.ofNat_mul]; rfl, show Int32.ofInt 4 = Int32.ofNat 4 from by decide, mg_subN (by omega)]
  congr 1
theorem mg_addN (a b : Nat) : Int32.ofNat a + Int32.ofNat b = Int32.ofNat (a + b) := (Int32.ofNat_add a b).symm
theorem mg_ad4 (n : Nat) : Int32.ofNat (4 * n) + Int32.ofInt 4 = Int32.ofNat (4 * (n + 1)) := mg_addN (4 * n) 4
theorem mg_ad8 (n : Nat) : Int32.ofNat (4 * n) + (Int8.ofInt 8).toInt32 = Int32.ofNat (4 * (n + 2)) := mg_addN (4 * n) 8
theorem mg_4c (n k : Nat) : Int32.ofInt 4 * Int32.ofNat (n + 1) - Int32.ofInt 4 + Int32.ofNat k = Int32.ofNat (4 * n + k) := by rw [mg_4b, mg_addN]
theorem mg_ad4k (n k : Nat) : Int32.ofNat (4 * n) + Int32.ofInt 4 + Int32.ofNat k = Int32.ofNat (4 * (n + 1) + k) := by rw [mg_ad4, mg_addN]
theorem mg_ad8k (n k : Nat) : Int32.ofNat (4 * n) + (Int8.ofInt 8).toInt32 + Int32.ofNat k = Int32.ofNat (4 * (n + 2) + k) := by rw [mg_ad8, mg_addN]
/-- the rows ahead of row n, and T in it, n + 1 rows in all -/
theorem rK_put {G G' : mg_G} {ts s : List a_T} {T : a_T} {g : Nat → Int64} (hK : rK G (ts ++ s)) (hg : ∀ w, w < 4 → g w = a_wd T w) (e : G'.2.1 164 = (cW G 164 ts.length 4 g).2.1 164) (e2 : G'.2.2.2.2 148 28 = .int (Int32.ofNat (ts.length + 1))) : rK G' (ts ++ [T]) := by
  refine ⟨by rw [List.length_append, List.length_singleton]; exact e2, fun i U hi w hw => ?_⟩
  rw [e]
  by_cases hl : i < ts.length
  · rw [List.getElem?_append_left hl] at hi
    rw [cW_at _ _ _ _ _ _ (by omega)]
    exact hK.2 i U (by rw [List.getElem?_append_left hl]; exact hi) w hw
  · have hi3 := (List.getElem?_eq_some_iff.mp hi).1
    rw [List.length_append, List.length_singleton] at hi3
    have ei : i = ts.length := by omega
    subst ei
    rw [List.getElem?_append_right (Nat.le_refl _), Nat.sub_self] at hi
    have := Option.some.inj (show some T = some U from hi)
    subst this
    rw [cW_in _ _ _ _ _ _ hw, hg w hw]
theorem rX.cW {G G' : mg_G} (h : rX G G') (r n : Nat) (g : Nat → Int64) : rX G (cW G' 164 r n g) := h.uJ _ (by decide)
section RM
variable {scr : Nat × (Nat → Int32)} {t : List mg_S} {G : mg_G} {A : a_A}
/-- what pushing T leaves -/
def rP (G : mg_G) (ts : List a_T) : mg_Q := fun o q G' => o = .inl none ∧ q = 0 ∧ rX G G' ∧ rK G' ts
theorem r224 (d : Nat) (hI : rI G A) {f : Nat} (hf : f < aF A) {ts : List a_T} (hK : rK G ts) (hl : ts.length < 400) : mg_m (mg_KM scr t) (d + 2) 224 [.ref 148, .int (Int32.ofNat f)] G (rP G (ts ++ [aT A f])) := by
  have h12 := hI.f12
  refine mg_me [2] 10 my_224 ms_224 (Nat.le_of_ble_eq_true rfl) ?_
  refine mg_loop 4 (fun k L G' => L = [some (.ref 148), some (.int (Int32.ofNat f)), some (.int (Int32.ofNat k))] ∧ G' = cW G 164 ts.length k (a_wd (aT A f))) ?_ ?_ _ _ ⟨rfl, (cW_0 _ _ _ _).symm⟩
  · rintro k L G' hk ⟨rfl, rfl⟩ ih
    have hv := r189 (scr := scr) (t := t) d f k (by omega) (cW G 164 ts.length k (a_wd (aT A f)))
    have e : (cW G 164 ts.length k (a_wd (aT A f))).2.1 150 (4 * f + k) = a_wd (aT A f) k := by
      rw [cW_ne _ _ _ _ _ _ (by decide), ← hI.t hf]
      rcases (show k = 0 ∨ k = 1 ∨ k = 2 ∨ k = 3 by omega) with rfl | rfl | rfl | rfl <;> rfl
    rw [e] at hv
    refine mg_go [2] 60 2 ms_224 ?_
    refine ⟨fun h => absurd h (mg_nle (b := 4) hk (by decide)), fun _ => ⟨_, mg_Fs rfl rfl, _, mg_Fe hK.1 rfl rfl, Or.inr ⟨_, rfl⟩, ?_⟩⟩
    refine mg_cv (hv) (by omega) ?_
    exact ⟨1600, 4 * ts.length + k, rfl, mg_ixE (mg_4a _ _) (by omega), by omega, ih _ _ ⟨by rw [← mg_inc k], cW_s _ _ _ _ _⟩⟩
  · rintro L G' ⟨rfl, rfl⟩
    refine mg_go [2] 60 2 ms_224 ?_
    refine ⟨fun _ => ⟨_, mg_Fe hK.1 rfl rfl, rfl, _, rfl, rfl, rfl, rfl, ((rX.rf G).cW _ _ _).s _ (by decide), ?_⟩, fun h => absurd h (by decide)⟩
    exact rK_put (s := []) (by rw [List.append_nil]; exact hK) (fun _ _ => rfl) rfl ((mg_sF_at _ _ _ _).trans (congrArg Value.int (mg_inc _)))
theorem r186 (d v w : Nat) (hm : ∀ v, v < 6 → G.2.1 154 v = a_m v) (hv : v < 8) (hw : w < 4) : mg_m (mg_KM scr t) (d + 1) 186 [.ref 148, .int (Int32.ofNat v), .int (Int32.ofNat w)] G (mg_v (.long (a_vw v w)) G) := by
  unfold a_vw
  by_cases h6 : v < 6
  · rw [if_pos h6, ← hm v h6]
    refine mg_me [] 60 my_186 ms_186 (Nat.le_of_ble_eq_true rfl) ?_
    refine ⟨fun h => absurd h (mg_nle (b := 6) h6 (by decide)), fun _ => ⟨_, mg_Fs rfl rfl, 6, _, v, mg_Al rfl (by decide), mg_ixN (by omega), h6, rfl, rfl, rfl⟩⟩
  · rw [if_neg h6]
    have hab := mg_vw v hv (by omega) w hw
    by_cases h1 : w / 2 ^ (v - 6) % 2 = 1
    · rw [if_pos h1]
      rw [h1] at hab
      refine mg_me [] 60 my_186 ms_186 (Nat.le_of_ble_eq_true rfl) ?_
      refine ⟨fun _ => ⟨fun h => absurd hab h, fun _ => ⟨rfl, rfl, rfl⟩⟩, fun h => absurd h (mg_nlt (b := v) (a := 6) (by omega) (by omega))⟩
    · rw [if_neg h1]
      have h0 : w / 2 ^ (v - 6) % 2 = 0 := by omega
      rw [h0] at hab
      refine mg_me [] 60 my_186 ms_186 (Nat.le_of_ble_eq_true rfl) ?_
      refine ⟨fun _ => ⟨fun _ => ⟨rfl, rfl, rfl⟩, fun h => absurd (hab.symm.trans h) (by decide)⟩, fun h => absurd h (mg_nlt (b := v) (a := 6) (by omega) (by omega))⟩
theorem r223 (d : Nat) (hI : rI G A) {v : Nat} (hv : v < 8) {ts : List a_T} (hK : rK G ts) (hl : ts.length < 400) : mg_m (mg_KM scr t) (d + 2) 223 [.ref 148, .int (Int32.ofNat v)] G (rP G (ts ++ [a_var v])) := by
  refine mg_me [2] 10 my_223 ms_223 (Nat.le_of_ble_eq_true rfl) ?_
  refine mg_loop 4 (fun k L G' => L = [some (.ref 148), some (.int (Int32.ofNat v)), some (.int (Int32.ofNat k))] ∧ G' = cW G 164 ts.length k (a_vw v)) ?_ ?_ _ _ ⟨rfl, (cW_0 _ _ _ _).symm⟩
  · rintro k L G' hk ⟨rfl, rfl⟩ ih
    have hv := r186 (scr := scr) (t := t) (G := cW G 164 ts.length k (a_vw v)) d v k (fun v hv => by rw [cW_ne _ _ _ _ _ _ (by decide)]; exact hI.1 v hv) hv hk
    refine mg_go [2] 60 2 ms_223 ?_
    refine ⟨fun h => absurd h (mg_nle (b := 4) hk (by decide)), fun _ => ⟨_, mg_Fs rfl rfl, _, mg_Fe hK.1 rfl rfl, Or.inr ⟨_, rfl⟩, ?_⟩⟩
    refine mg_cv (hv) (by omega) ?_
    exact ⟨1600, 4 * ts.length + k, rfl, mg_ixE (mg_4a _ _) (by omega), by omega, ih _ _ ⟨by rw [← mg_inc k], cW_s _ _ _ _ _⟩⟩
  · rintro L G' ⟨rfl, rfl⟩
    refine mg_go [2] 60 2 ms_223 ?_
    refine ⟨fun _ => ⟨_, mg_Fe hK.1 rfl rfl, rfl, _, rfl, rfl, rfl, rfl, ((rX.rf G).cW _ _ _).s _ (by decide), ?_⟩, fun h => absurd h (by decide)⟩
    exact rK_put (s := []) (by rw [List.append_nil]; exact hK) (fun w hw => (a_wd4 _ w hw).symm) rfl ((mg_sF_at _ _ _ _).trans (congrArg Value.int (mg_inc _)))
theorem r225 (d : Nat) (x : Int64) {ts : List a_T} (hK : rK G ts) (hl : ts.length < 400) : mg_m (mg_KM scr t) (d + 1) 225 [.ref 148, .long x] G (rP G (ts ++ [(x, x, x, x)])) := by
  refine mg_me [2] 10 my_225 ms_225 (Nat.le_of_ble_eq_true rfl) ?_
  refine mg_loop 4 (fun k L G' => L = [some (.ref 148), some (.long x), none, some (.int (Int32.ofNat k))] ∧ G' = cW G 164 ts.length k (fun _ => x)) ?_ ?_ _ _ ⟨rfl, (cW_0 _ _ _ _).symm⟩
  · rintro k L G' hk ⟨rfl, rfl⟩ ih
    refine mg_go [2] 60 2 ms_225 ?_
    refine ⟨fun h => absurd h (mg_nle (b := 4) hk (by decide)), fun _ => ⟨_, mg_Fs rfl rfl, _, mg_Fe hK.1 rfl rfl, ?_⟩⟩
    exact ⟨1600, 4 * ts.length + k, rfl, mg_ixE (mg_4a _ _) (by omega), by omega, ih _ _ ⟨by rw [← mg_inc k], cW_s _ _ _ _ _⟩⟩
  · rintro L G' ⟨rfl, rfl⟩
    refine mg_go [2] 60 2 ms_225 ?_
    refine ⟨fun _ => ⟨_, mg_Fe hK.1 rfl rfl, rfl, _, rfl, rfl, rfl, rfl, ((rX.rf G).cW _ _ _).s _ (by decide), ?_⟩, fun h => absurd h (by decide)⟩
    exact rK_put (s := []) (g := fun _ => x) (by rw [List.append_nil]; exact hK) (fun w hw => by rcases (show w = 0 ∨ w = 1 ∨ w = 2 ∨ w = 3 by omega) with rfl | rfl | rfl | rfl <;> rfl) rfl ((mg_sF_at _ _ _ _).trans (congrArg Value.int (mg_inc _)))
theorem r226 {K : mg_K} (d : Nat) (op : Int32) (x y : Int64) : mg_m K (d + 1) 226 [.int op, .long x, .long y] G (mg_v (.long (a_comb op x y)) G) := by
  refine mg_me [] 20 my_226 ms_226 (Nat.le_of_ble_eq_true rfl) ?_
  refine ⟨by decide, fun h => ?_, fun h => ?_, fun h => ?_, fun h => ?_, fun h => ?_, fun h => ?_, trivial⟩
  · refine ⟨?_, rfl, rfl⟩
    unfold a_comb
    have ne : ∀ k : Int, 0 ≤ k → k ≤ 4 → ¬ op.toInt = k := fun k h1 h2 h3 => by omega
    rw [if_neg (fun e => ne 0 (by decide) (by decide) (by rw [e]; rfl)), if_neg (fun e => ne 1 (by decide) (by decide) (by rw [e]; rfl)), if_neg (fun e => ne 2 (by decide) (by decide) (by rw [e]; rfl)), if_neg (fun e => ne 3 (by decide) (by decide) (by rw [e]; rfl)), if_neg (fun e => ne 4 (by decide) (by decide) (by rw [e]; rfl))]
  · have e := mg_op h (by decide)
    subst e
    exact ⟨rfl, rfl, rfl⟩
  · have e := mg_op h (by decide)
    subst e
    exact ⟨rfl, rfl, rfl⟩
  · have e := mg_op h (by decide)
    subst e
    exact ⟨rfl, rfl, rfl⟩
  · have e := mg_op h (by decide)
    subst e
    exact ⟨rfl, rfl, rfl⟩
  · have e := mg_op h (by decide)
    subst e
    exact ⟨rfl, rfl, rfl⟩
/-- the rows of a stack, while the row of the result is written -/
theorem rK_rd {G G1 : mg_G} {ts : List a_T} (hK : rK G ts) (e : G1.2.1 = G.2.1) (r k : Nat) (g : Nat → Int64) {i : Nat} {T : a_T} (hi : ts[i]? = some T) (hk : k < 4) (hik : r < i ∨ i = r) : (cW G1 164 r k g).2.1 164 (4 * i + k) = a_wd T k := by
  rw [cW_at _ _ _ _ _ _ (by omega), e]
  exact hK.2 i T hi k hk
theorem r227 (d : Nat) (op : Int32) {ts : List a_T} {x y : a_T} (hK : rK G (ts ++ [x, y])) (hl : ts.length < 390) : mg_m (mg_KM scr t) (d + 2) 227 [.ref 148, .int op] G (fun o q G' => o = .inl (some (.int 1)) ∧ q = 0 ∧ rX G G' ∧ rK G' (ts ++ [a_op op x y])) := by
  have hx : (ts ++ [x, y])[ts.length]? = some x := by rw [List.getElem?_append_right (Nat.le_refl _), Nat.sub_self]; rfl
  have hy : (ts ++ [x, y])[ts.length + 1]? = some y := by rw [List.getElem?_append_right (by omega), show ts.length + 1 - ts.length = 1 by omega]; rfl
  have hn : G.2.2.2.2 148 28 = .int (Int32.ofNat (ts.length + 1 + 1)) := by
    have := hK.1
    rw [List.length_append] at this
    exact this
  have hn1 : (mg_sF G 148 28 (.int (Int32.ofNat (ts.length + 1 + 1) - Int32.ofInt 1))).2.2.2.2 148 28 = .int (Int32.ofNat (ts.length + 1)) := by rw [mg_sF_at, mg_dec]
  refine mg_me [12] 30 my_227 ms_227 (Nat.le_of_ble_eq_true rfl) ?_
  refine ⟨_, mg_Fe hn rfl rfl, rfl, _, rfl, rfl, ?_⟩
  refine mg_loop 4 (fun k L G' => L = [some (.ref 148), some (.int op), some (.int (Int32.ofNat k))] ∧ G' = cW (mg_sF G 148 28 (.int (Int32.ofNat (ts.length + 1 + 1) - Int32.ofInt 1))) 164 ts.length k (fun w => a_comb op (a_wd x w) (a_wd y w))) ?_ ?_ _ _ ⟨rfl, (cW_0 _ _ _ _).symm⟩
  · rintro k L G' hk ⟨rfl, rfl⟩ ih
    have e1 := rK_rd hK (G1 := mg_sF G 148 28 (.int (Int32.ofNat (ts.length + 1 + 1) - Int32.ofInt 1))) rfl ts.length k (fun w => a_comb op (a_wd x w) (a_wd y w)) hx hk (Or.inr rfl)
    have e2 := rK_rd hK (G1 := mg_sF G 148 28 (.int (Int32.ofNat (ts.length + 1 + 1) - Int32.ofInt 1))) rfl ts.length k (fun w => a_comb op (a_wd x w) (a_wd y w)) hy hk (Or.inl (by omega))
    have hc := r226 (K := mg_KM scr t) (G := cW (mg_sF G 148 28 (.int (Int32.ofNat (ts.length + 1 + 1) - Int32.ofInt 1))) 164 ts.length k (fun w => a_comb op (a_wd x w) (a_wd y w))) d op (a_wd x k) (a_wd y k)
    rw [← e1, ← e2] at hc
    refine mg_go [12] 90 12 ms_227 ?_
    refine ⟨fun h => absurd h (mg_nle (b := 4) hk (by decide)), fun _ => ⟨_, mg_Fs rfl rfl, _, mg_Fe hn1 rfl rfl, _, mg_Fs rfl rfl, _, mg_Fe hn1 rfl rfl, 1600, _, 4 * ts.length + k, mg_Al rfl (by decide), mg_ixE (mg_4c _ _) (by omega), by omega, ?_⟩⟩
    refine ⟨_, mg_Fs rfl rfl, _, mg_Fe hn1 rfl rfl, 1600, _, 4 * (ts.length + 1) + k, mg_Al rfl (by decide), mg_ixE (mg_4a _ _) (by omega), by omega, Or.inl rfl, ?_⟩
    refine mg_cv (hc) (by omega) ?_
    rw [e1, e2]
    exact ⟨1600, 4 * ts.length + k, rfl, mg_ixE (mg_4c _ _) (by omega), by omega, ih _ _ ⟨by rw [← mg_inc k], cW_s _ _ _ _ _⟩⟩
  · rintro L G' ⟨rfl, rfl⟩
    refine mg_go [12] 60 12 ms_227 ?_
    refine ⟨fun _ => ⟨Or.inr rfl, rfl, rfl, ((rX.rf G).s _ (by decide)).cW _ _ _, ?_⟩, fun h => absurd h (by decide)⟩
    exact rK_put hK (fun w hw => (a_wd4 _ w hw).symm) rfl hn1
theorem r229 (d : Nat) {ts : List a_T} {x : a_T} (hK : rK G (ts ++ [x])) (hl : ts.length < 390) : mg_m (mg_KM scr t) (d + 1) 229 [.ref 148] G (rP G (ts ++ [a_not x])) := by
  have hx : (ts ++ [x])[ts.length]? = some x := by rw [List.getElem?_append_right (Nat.le_refl _), Nat.sub_self]; rfl
  have hn : G.2.2.2.2 148 28 = .int (Int32.ofNat (ts.length + 1)) := by
    have := hK.1
    rw [List.length_append] at this
    exact this
  refine mg_me [2] 30 my_229 ms_229 (Nat.le_of_ble_eq_true rfl) ?_
  refine mg_loop 4 (fun k L G' => L = [some (.ref 148), some (.int (Int32.ofNat k))] ∧ G' = cW G 164 ts.length k (fun w => a_wd x w ^^^ (-1 : Int64))) ?_ ?_ _ _ ⟨rfl, (cW_0 _ _ _ _).symm⟩
  · rintro k L G' hk ⟨rfl, rfl⟩ ih
    have e1 := rK_rd hK (G1 := G) rfl ts.length k (fun w => a_wd x w ^^^ (-1 : Int64)) hx hk (Or.inr rfl)
    refine mg_go [2] 90 2 ms_229 ?_
    refine ⟨fun h => absurd h (mg_nle (b := 4) hk (by decide)), fun _ => ⟨_, mg_Fs rfl rfl, _, mg_Fe hn rfl rfl, _, mg_Fs rfl rfl, _, mg_Fe hn rfl rfl, 1600, _, 4 * ts.length + k, mg_Al rfl (by decide), mg_ixE (mg_4c _ _) (by omega), by omega, ?_⟩⟩
    rw [e1]
    exact ⟨1600, 4 * ts.length + k, rfl, mg_ixE (mg_4c _ _) (by omega), by omega, ih _ _ ⟨by rw [← mg_inc k], cW_s _ _ _ _ _⟩⟩
  · rintro L G' ⟨rfl, rfl⟩
    refine mg_go [2] 60 2 ms_229 ?_
    refine ⟨fun _ => ⟨rfl, rfl, (rX.rf G).cW _ _ _, ?_⟩, fun h => absurd h (by decide)⟩
    exact rK_put hK (fun w hw => (a_wd4 _ w hw).symm) rfl hn
theorem r228 (d : Nat) {ts : List a_T} {c x y : a_T} (hK : rK G (ts ++ [c, x, y])) (hl : ts.length < 390) : mg_m (mg_KM scr t) (d + 1) 228 [.ref 148] G (rP G (ts ++ [a_sel c x y])) := by
  have hc : (ts ++ [c, x, y])[ts.length]? = some c := by rw [List.getElem?_append_right (Nat.le_refl _), Nat.sub_self]; rfl
  have hx : (ts ++ [c, x, y])[ts.length + 1]? = some x := by rw [List.getElem?_append_right (by omega), show ts.length + 1 - ts.length = 1 by omega]; rfl
  have hy : (ts ++ [c, x, y])[ts.length + 2]? = some y := by rw [List.getElem?_append_right (by omega), show ts.length + 2 - ts.length = 2 by omega]; rfl
  have hn : G.2.2.2.2 148 28 = .int (Int32.ofNat (ts.length + 1 + 2)) := by
    have := hK.1
    rw [List.length_append] at this
    exact this
  have hn1 : (mg_sF G 148 28 (.int (Int32.ofNat (ts.length + 1 + 2) - Int32.ofInt 2))).2.2.2.2 148 28 = .int (Int32.ofNat (ts.length + 1)) := by
    rw [mg_sF_at, show Int32.ofInt 2 = Int32.ofNat 2 from by decide, mg_subN (by omega), Nat.add_sub_cancel]
  refine mg_me [21] 30 my_228 ms_228 (Nat.le_of_ble_eq_true rfl) ?_
  refine ⟨_, mg_Fe hn rfl rfl, rfl, _, rfl, rfl, _, mg_Fe hn1 rfl rfl, ?_⟩
  refine mg_loop 4 (fun k L G' => L = [some (.ref 148), some (.int (Int32.ofNat (4 * ts.length))), some (.int (Int32.ofNat k))] ∧ G' = cW (mg_sF G 148 28 (.int (Int32.ofNat (ts.length + 1 + 2) - Int32.ofInt 2))) 164 ts.length k (fun w => (a_wd c w &&& a_wd x w) ||| ((a_wd c w ^^^ (-1 : Int64)) &&& a_wd y w))) ?_ ?_ _ _ ⟨by rw [← mg_4b] <;> rfl, (cW_0 _ _ _ _).symm⟩
  · rintro k L G' hk ⟨rfl, rfl⟩ ih
    have e0 := rK_rd hK (G1 := mg_sF G 148 28 (.int (Int32.ofNat (ts.length + 1 + 2) - Int32.ofInt 2))) rfl ts.length k (fun w => (a_wd c w &&& a_wd x w) ||| ((a_wd c w ^^^ (-1 : Int64)) &&& a_wd y w)) hc hk (Or.inr rfl)
    have e1 := rK_rd hK (G1 := mg_sF G 148 28 (.int (Int32.ofNat (ts.length + 1 + 2) - Int32.ofInt 2))) rfl ts.length k (fun w => (a_wd c w &&& a_wd x w) ||| ((a_wd c w ^^^ (-1 : Int64)) &&& a_wd y w)) hx hk (Or.inl (by omega))
    have e2 := rK_rd hK (G1 := mg_sF G 148 28 (.int (Int32.ofNat (ts.length + 1 + 2) - Int32.ofInt 2))) rfl ts.length k (fun w => (a_wd c w &&& a_wd x w) ||| ((a_wd c w ^^^ (-1 : Int64)) &&& a_wd y w)) hy hk (Or.inl (by omega))
    refine mg_go [21] 90 21 ms_228 ?_
    refine ⟨fun h => absurd h (mg_nle (b := 4) hk (by decide)), fun _ => ⟨_, mg_Fs rfl rfl, _, mg_Fs rfl rfl, 1600, _, 4 * ts.length + k, mg_Al rfl (by decide), mg_ixE (mg_addN _ _) (by omega), by omega, ?_⟩⟩
    refine ⟨_, mg_Fs rfl rfl, 1600, _, 4 * (ts.length + 1) + k, mg_Al rfl (by decide), mg_ixE (mg_ad4k _ _) (by omega), by omega, ?_⟩
    refine ⟨_, mg_Fs rfl rfl, 1600, _, 4 * ts.length + k, mg_Al rfl (by decide), mg_ixE (mg_addN _ _) (by omega), by omega, ?_⟩
    refine ⟨_, mg_Fs rfl rfl, 1600, _, 4 * (ts.length + 2) + k, mg_Al rfl (by decide), mg_ixE (mg_ad8k _ _) (by omega), by omega, ?_⟩
    rw [e0, e1, e2]
    exact ⟨1600, 4 * ts.length + k, rfl, mg_ixE (mg_addN _ _) (by omega), by omega, ih _ _ ⟨by rw [← mg_inc k], cW_s _ _ _ _ _⟩⟩
  · rintro L G' ⟨rfl, rfl⟩
    refine mg_go [21] 60 21 ms_228 ?_
    refine ⟨fun _ => ⟨rfl, rfl, ((rX.rf G).s _ (by decide)).cW _ _ _, ?_⟩, fun h => absurd h (by decide)⟩
    exact rK_put hK (fun w hw => (a_wd4 _ w hw).symm) rfl hn1
end RM
