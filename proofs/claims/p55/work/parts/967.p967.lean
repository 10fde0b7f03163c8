section KC
variable {scr : Nat × (Nat → Int32)} {t : List mg_S} {G : mg_G} {S : a_S}
theorem cT.w3 (h : cT G S) : a_wds (aV (sA S)) = 1 ∨ a_wds (aV (sA S)) = 2 ∨ a_wds (aV (sA S)) = 4 := (a_wds_i (aV (sA S)) h.v8).1
theorem cT.rw (h : cT G S) {f : Nat} (hf : f < aF (sA S)) : cRow G 32 f (a_wds (aV (sA S))) (aT (sA S) f) := h.1.2.2.2.1 f hf
theorem cT.pw (h : cT G S) {f : Nat} (hf : f < aF (sA S)) : a_pw (aT (sA S) f) (a_wds (aV (sA S))) := a_per_pw (h.2.1.2.2.2.1 f hf) h.v8
theorem c87A (d : Nat) (hT : cT G S) {f v : Nat} (hf : f < aF (sA S)) (hv : v < aV (sA S)) : mg_m (mg_KC scr t) (d + 1) 87 [.ref 31, .int (Int32.ofNat f), .int (Int32.ofNat v)] G (mg_v (.int (if a_dp (aT (sA S) f) v then 1 else 0)) G) := by
  have h8 := hT.v8
  have h12 := hT.f12
  have h4 := hT.w4
  exact c87 d f v kc_s1.T hT.1.1 hT.w3 (by omega) (fun h6 => a_wds_v _ (by omega) v hv h6) (by omega) (hT.rw hf) (hT.pw hf)
theorem c88A (d : Nat) (hT : cT G S) {f g : Nat} (hf : f < aF (sA S)) (hg : g < aF (sA S)) : mg_m (mg_KC scr t) (d + 1) 88 [.ref 31, .int (Int32.ofNat f), .int (Int32.ofNat g)] G (mg_v (.int (if aT (sA S) f = aT (sA S) g then 1 else 0)) G) := by
  have h12 := hT.f12
  have h4 := hT.w4
  have h3 := hT.w3
  refine mg_m_mono (c88 d f g kc_s1.T hT.1.1 (by omega) (by omega)) (Nat.le_refl _) ?_
  rintro o k G' ⟨rfl, rfl, ⟨rfl, h⟩ | ⟨rfl, w, hw, h⟩⟩
  · have e : aT (sA S) f = aT (sA S) g := a_pw_eq (hT.pw hf) (hT.pw hg) (by omega) (fun w hw => by rw [← hT.rw hf w hw, ← hT.rw hg w hw]; exact h w hw)
    exact ⟨by rw [if_pos e], rfl, rfl⟩
  · have e : aT (sA S) f ≠ aT (sA S) g := fun e => h (by
      have h1 := hT.rw hf w hw
      have h2 := hT.rw hg w hw
      rw [e] at h1
      exact h1.trans h2.symm)
    exact ⟨by rw [if_neg e], rfl, rfl⟩
theorem c170 (d : Nat) (hT : cT G S) {f : Nat} (hf : f < aF (sA S)) : mg_m (mg_KC scr t) (d + 2) 170 [.ref 0, .int (Int32.ofNat f)] G (mg_v (.int (a_sup (sA S) f)) G) := by
  have h8 := hT.v8
  refine mg_me [4] 60 my_170 ms_170 (Nat.le_of_ble_eq_true rfl) ?_
  refine mg_loop (aV (sA S)) (fun k L G' => L = [some (.ref 0), some (.int (Int32.ofNat f)), some (.int (a_sum (fun v => if a_dp (aT (sA S) f) v then (1 : Int32) <<< (Int32.ofNat v &&& 31) else 0) k)), some (.int (Int32.ofNat k))] ∧ G' = G) ?_ ?_ _ _ ⟨rfl, rfl⟩
  · rintro k L G' hk ⟨rfl, rfl⟩ ih
    have es : a_sum (fun v => if a_dp (aT (sA S) f) v then (1 : Int32) <<< (Int32.ofNat v &&& 31) else 0) (k + 1) = a_sum (fun v => if a_dp (aT (sA S) f) v then (1 : Int32) <<< (Int32.ofNat v &&& 31) else 0) k + (if a_dp (aT (sA S) f) k then (1 : Int32) <<< (Int32.ofNat k &&& 31) else 0) := rfl
    rw [es, ← mg_inc k] at ih
    refine mg_go [4] 60 4 ms_170 ?_
    refine ⟨_, mg_Fs rfl rfl, _, mg_Fe hT.1.2.2.1 rfl rfl, fun h => absurd h (mg_nle hk (by omega)), fun _ => ?_⟩
    repeat (first | refine ⟨_, mg_Fs rfl rfl, ?_⟩ | refine ⟨Or.inl rfl, ?_⟩ | refine ⟨Or.inr ⟨_, rfl⟩, ?_⟩ | refine ⟨fun _ => ?_, fun h => absurd h (by decide)⟩ | refine ⟨fun h => absurd h (by decide), fun _ => ?_⟩)
    refine mg_cv (c87A d hT hf hk) (by omega) ?_
    cases hb : a_dp (aT (sA S) f) k with
    | true =>
      rw [hb, if_pos rfl] at ih
      exact ⟨fun h => absurd h (by decide), fun _ => ih _ _ ⟨rfl, rfl⟩⟩
    | false =>
      rw [hb, if_neg (by decide), Int32.add_zero] at ih
      exact ⟨fun _ => ih _ _ ⟨rfl, rfl⟩, fun h => absurd rfl h⟩
  · rintro L G' ⟨rfl, rfl⟩
    refine mg_go [] 60 4 ms_170 ?_
    exact ⟨_, mg_Fs rfl rfl, _, mg_Fe hT.1.2.2.1 rfl rfl, fun _ => ⟨Or.inl rfl, rfl, rfl, rfl⟩, fun h => absurd h (Int32.not_lt.mpr (Int32.le_refl _))⟩
theorem c169 (d : Nat) (hT : cT G S) {v : Nat} (hv : v < aV (sA S)) : mg_m (mg_KC scr t) (d + 2) 169 [.ref 0, .int (Int32.ofNat v)] G (mg_v (.int (a_sum (fun f => if a_dp (aT (sA S) f) v then 1 else 0) (aF (sA S)))) G) := by
  have h12 := hT.f12
  refine mg_me [4] 60 my_169 ms_169 (Nat.le_of_ble_eq_true rfl) ?_
  refine mg_loop (aF (sA S)) (fun k L G' => L = [some (.ref 0), some (.int (Int32.ofNat v)), some (.int (a_sum (fun f => if a_dp (aT (sA S) f) v then 1 else 0) k)), some (.int (Int32.ofNat k))] ∧ G' = G) ?_ ?_ _ _ ⟨rfl, rfl⟩
  · rintro k L G' hk ⟨rfl, rfl⟩ ih
    have es : a_sum (fun f => if a_dp (aT (sA S) f) v then (1 : Int32) else 0) (k + 1) = a_sum (fun f => if a_dp (aT (sA S) f) v then 1 else 0) k + (if a_dp (aT (sA S) k) v then 1 else 0) := rfl
    rw [es, ← mg_inc k] at ih
    refine mg_go [4] 60 4 ms_169 ?_
    refine ⟨_, mg_Fs rfl rfl, _, mg_Fe hT.1.2.1 rfl rfl, fun h => absurd h (mg_nle hk (by omega)), fun _ => ?_⟩
    repeat (first | refine ⟨_, mg_Fs rfl rfl, ?_⟩ | refine ⟨Or.inl rfl, ?_⟩ | refine ⟨Or.inr ⟨_, rfl⟩, ?_⟩ | refine ⟨fun _ => ?_, fun h => absurd h (by decide)⟩ | refine ⟨fun h => absurd h (by decide), fun _ => ?_⟩)
    refine mg_cv (c87A d hT hk hv) (by omega) ?_
    cases hb : a_dp (aT (sA S) k) v with
    | true =>
      rw [hb, if_pos rfl] at ih
      exact ⟨fun h => absurd h (by decide), fun _ => ih _ _ ⟨rfl, rfl⟩⟩
    | false =>
      rw [hb, if_neg (by decide), Int32.add_zero] at ih
      exact ⟨fun _ => ih _ _ ⟨rfl, rfl⟩, fun h => absurd rfl h⟩
  · rintro L G' ⟨rfl, rfl⟩
    refine mg_go [] 60 4 ms_169 ?_
    exact ⟨_, mg_Fs rfl rfl, _, mg_Fe hT.1.2.1 rfl rfl, fun _ => ⟨Or.inl rfl, rfl, rfl, rfl⟩, fun h => absurd h (Int32.not_lt.mpr (Int32.le_refl _))⟩
theorem c168 (d : Nat) (hT : cT G S) : mg_m (mg_KC scr t) (d + 3) 168 [.ref 0] G (mg_v (.int (a_sum (fun f => if a_sup (sA S) f = 0 then 1 else 0) (aF (sA S)))) G) := by
  have h12 := hT.f12
  refine mg_me [4] 60 my_168 ms_168 (Nat.le_of_ble_eq_true rfl) ?_
  refine mg_loop (aF (sA S)) (fun k L G' => L = [some (.ref 0), some (.int (a_sum (fun f => if a_sup (sA S) f = 0 then 1 else 0) k)), some (.int (Int32.ofNat k))] ∧ G' = G) ?_ ?_ _ _ ⟨rfl, rfl⟩
  · rintro k L G' hk ⟨rfl, rfl⟩ ih
    have es : a_sum (fun f => if a_sup (sA S) f = 0 then (1 : Int32) else 0) (k + 1) = a_sum (fun f => if a_sup (sA S) f = 0 then 1 else 0) k + (if a_sup (sA S) k = 0 then 1 else 0) := rfl
    rw [es, ← mg_inc k] at ih
    refine mg_go [4] 60 4 ms_168 ?_
    refine ⟨_, mg_Fs rfl rfl, _, mg_Fe hT.1.2.1 rfl rfl, fun h => absurd h (mg_nle hk (by omega)), fun _ => ?_⟩
    repeat (first | refine ⟨_, mg_Fs rfl rfl, ?_⟩ | refine ⟨Or.inl rfl, ?_⟩ | refine ⟨Or.inr ⟨_, rfl⟩, ?_⟩ | refine ⟨fun _ => ?_, fun h => absurd h (by decide)⟩ | refine ⟨fun h => absurd h (by decide), fun _ => ?_⟩)
    refine mg_cv (c170 d hT hk) (by omega) ?_
    refine ⟨fun h => ?_, fun h => ?_⟩
    · rw [if_neg h, Int32.add_zero] at ih
      exact ih _ _ ⟨rfl, rfl⟩
    · rw [if_pos h] at ih
      exact ih _ _ ⟨rfl, rfl⟩
  · rintro L G' ⟨rfl, rfl⟩
    refine mg_go [] 60 4 ms_168 ?_
    exact ⟨_, mg_Fs rfl rfl, _, mg_Fe hT.1.2.1 rfl rfl, fun _ => ⟨Or.inl rfl, rfl, rfl, rfl⟩, fun h => absurd h (Int32.not_lt.mpr (Int32.le_refl _))⟩
theorem c167 (d : Nat) (hT : cT G S) {f : Nat} (hf : f < aF (sA S)) : mg_m (mg_KC scr t) (d + 2) 167 [.ref 0, .int (Int32.ofNat f)] G (mg_v (.int (if a_fe (sA S) f = none then 0 else 1)) G) := by
  have h12 := hT.f12
  refine mg_me [2] 60 my_167 ms_167 (Nat.le_of_ble_eq_true rfl) ?_
  refine mg_loop f (fun k L G' => L = [some (.ref 0), some (.int (Int32.ofNat f)), some (.int (Int32.ofNat k))] ∧ G' = G ∧ ∀ j, j < k → (fun g => decide (aT (sA S) f = aT (sA S) g)) j = false) ?_ ?_ _ _ ⟨rfl, rfl, fun j h => absurd h (Nat.not_lt_zero j)⟩
  · rintro k L G' hk ⟨rfl, rfl, hno⟩ ih
    refine mg_go [2] 60 2 ms_167 ?_
    refine ⟨fun h => absurd h (mg_nle hk (by omega)), fun _ => ?_⟩
    repeat (first | refine ⟨_, mg_Fs rfl rfl, ?_⟩ | refine ⟨Or.inl rfl, ?_⟩ | refine ⟨Or.inr ⟨_, rfl⟩, ?_⟩ | refine ⟨fun _ => ?_, fun h => absurd h (by decide)⟩ | refine ⟨fun h => absurd h (by decide), fun _ => ?_⟩)
    refine mg_cv (c88A d hT (show k < aF (sA S) by omega) hf) (by omega) ?_
    by_cases e : aT (sA S) k = aT (sA S) f
    · rw [if_pos e]
      refine ⟨fun h => absurd h (by decide), fun _ => ⟨Or.inr rfl, ?_, rfl, rfl⟩⟩
      rw [if_neg (show ¬ a_fe (sA S) f = none from fun q => by
        have : a_fe (sA S) f = some k := a_ff_some hk (decide_eq_true e.symm) hno
        rw [this] at q
        cases q)]
      rfl
    · rw [if_neg e]
      refine ⟨fun _ => ih _ _ ⟨by rw [mg_inc k], rfl, fun j hj => ?_⟩, fun h => absurd rfl h⟩
      by_cases q : j = k
      · rw [q]; exact decide_eq_false (fun q => e q.symm)
      · exact hno j (by omega)
  · rintro L G' ⟨rfl, rfl, hno⟩
    refine mg_go [] 60 2 ms_167 ?_
    refine ⟨fun _ => ⟨Or.inr rfl, ?_, rfl, rfl⟩, fun h => absurd h (Int32.not_lt.mpr (Int32.le_refl _))⟩
    rw [if_pos (show a_fe (sA S) f = none from a_ff_none hno)]
    rfl
theorem c166 (d : Nat) (hT : cT G S) : mg_m (mg_KC scr t) (d + 3) 166 [.ref 0] G (mg_v (.int (a_sum (fun f => if a_fe (sA S) f = none then 1 else 0) (aF (sA S)))) G) := by
  have h12 := hT.f12
  refine mg_me [4] 60 my_166 ms_166 (Nat.le_of_ble_eq_true rfl) ?_
  refine mg_loop (aF (sA S)) (fun k L G' => L = [some (.ref 0), some (.int (a_sum (fun f => if a_fe (sA S) f = none then 1 else 0) k)), some (.int (Int32.ofNat k))] ∧ G' = G) ?_ ?_ _ _ ⟨rfl, rfl⟩
  · rintro k L G' hk ⟨rfl, rfl⟩ ih
    have es : a_sum (fun f => if a_fe (sA S) f = none then (1 : Int32) else 0) (k + 1) = a_sum (fun f => if a_fe (sA S) f = none then 1 else 0) k + (if a_fe (sA S) k = none then 1 else 0) := rfl
    rw [es, ← mg_inc k] at ih
    refine mg_go [4] 60 4 ms_166 ?_
    refine ⟨_, mg_Fs rfl rfl, _, mg_Fe hT.1.2.1 rfl rfl, fun h => absurd h (mg_nle hk (by omega)), fun _ => ?_⟩
    repeat (first | refine ⟨_, mg_Fs rfl rfl, ?_⟩ | refine ⟨Or.inl rfl, ?_⟩ | refine ⟨Or.inr ⟨_, rfl⟩, ?_⟩ | refine ⟨fun _ => ?_, fun h => absurd h (by decide)⟩ | refine ⟨fun h => absurd h (by decide), fun _ => ?_⟩)
    refine mg_cv (c167 d hT hk) (by omega) ?_
    by_cases e : a_fe (sA S) k = none
    · rw [if_pos e] at ih ⊢
      exact ⟨fun h => absurd rfl h, fun _ => ih _ _ ⟨rfl, rfl⟩⟩
    · rw [if_neg e] at ih ⊢
      rw [Int32.add_zero] at ih
      exact ⟨fun _ => ih _ _ ⟨rfl, rfl⟩, fun h => absurd h (by decide)⟩
  · rintro L G' ⟨rfl, rfl⟩
    refine mg_go [] 60 4 ms_166 ?_
    exact ⟨_, mg_Fs rfl rfl, _, mg_Fe hT.1.2.1 rfl rfl, fun _ => ⟨Or.inl rfl, rfl, rfl, rfl⟩, fun h => absurd h (Int32.not_lt.mpr (Int32.le_refl _))⟩
theorem c172 {K : mg_K} (d : Nat) {l : List Nat} (hl : a_nm7 l) : mg_m K (d + 1) 172 [.long (a_pk l)] G (mg_v (.int (Int32.ofNat l.length)) G) := by
  have h7 := hl.2
  have tk : ∀ k, a_nm7 (l.take k) := fun k => ⟨fun c hc => hl.1 c (List.mem_of_mem_take hc), by rw [List.length_take]; omega⟩
  refine mg_me [4] 60 my_172 ms_172 (Nat.le_of_ble_eq_true rfl) ?_
  refine mg_loop l.length (fun k L G' => L = [some (.long (a_pk l)), none, some (.int (Int32.ofNat k)), some (.long (a_pk (l.take (l.length - k)))), none] ∧ G' = G) ?_ ?_ _ _ ⟨by rw [Nat.sub_zero, List.take_length]; rfl, rfl⟩
  · rintro k L G' hk ⟨rfl, rfl⟩ ih
    obtain ⟨m, hm⟩ : ∃ m, l.length - k = m + 1 := ⟨l.length - k - 1, by omega⟩
    obtain ⟨c, hc⟩ : ∃ c, l[m]? = some c := ⟨_, List.getElem?_eq_getElem (by omega)⟩
    have e1 : l.take (m + 1) = l.take m ++ [c] := by rw [List.take_succ, hc]; rfl
    have h2 := tk (m + 1)
    rw [e1] at h2
    have hne : a_pk (l.take m ++ [c]) ≠ 0 := fun q => by
      have := (a_pk_0 h2).mp q
      simp at this
    have hsh := a_pk_shr h2
    rw [show l.length - (k + 1) = m by omega] at ih
    rw [hm, e1]
    refine mg_go [4] 60 4 ms_172 ?_
    refine ⟨fun h => absurd ((lg_cmp_eq _ _).mp h) hne, fun _ => ⟨fun h => absurd h (mg_nle (b := 7) (by omega) (by decide)), fun _ => ih _ _ ⟨?_, rfl⟩⟩⟩
    rw [← mg_inc k, ← hsh]
  · rintro L G' ⟨rfl, rfl⟩
    rw [Nat.sub_self, List.take_zero]
    refine mg_go [] 60 4 ms_172 ?_
    refine ⟨fun _ => ⟨Or.inl rfl, rfl, rfl, rfl⟩, fun h => absurd ((lg_cmp_eq _ _).mpr ?_) h⟩
    exact (a_pk_0 ⟨fun c h => absurd h List.not_mem_nil, by decide⟩).mpr rfl
end KC
