/-! a step of the mini machine is the machine's -/
def mm_astore (cc : ByteArray) (h len k : Nat) : Prop := (decode cc h = .ok (.astore k, 2) ∧ len = 2) ∨ ∃ k4 : Fin 4, (k4 : Nat) = k ∧ decode cc h = .ok (.astore_n k4, 1) ∧ len = 1
/-- handlers over a call at pc -/
def mm_hE (own : String) (cc : ByteArray) (hh : List (Nat × Nat × Nat × Nat)) (pc : Nat) (hs : List (String × Nat × Nat × Nat)) : Prop :=
  (hs = [] → ∀ x ∈ tableOf hh, covers x pc = false) ∧
  (∀ (E : String) (h len k : Nat), hs.lookup E = some (h, len, k) → ∃ (pre : List ExceptionTableEntry) (x : ExceptionTableEntry) (suf : List ExceptionTableEntry) (name : String), tableOf hh = pre ++ x :: suf ∧
    (∀ z ∈ pre, covers z pc = false ∨ (z.catchType ≠ 0 ∧ ∃ nm : String, Cond.classLink own z.catchType nm ∈ mm_T ∧ E ∈ mm_ex ∧ nm ∈ mm_ex ∧ E ≠ nm)) ∧
    covers x pc = true ∧ x.catchType ≠ 0 ∧ Cond.classLink own x.catchType name ∈ mm_T ∧ Cond.castable E name ∈ mm_T ∧ x.handlerPc = h ∧ mm_astore cc h len k)
/-- a 'throw new E("text")' -/
def mm_tE (sts : String → Nat → Option (Nat × String)) (own : String) (cc : ByteArray) (hh : List (Nat × Nat × Nat × Nat)) (pc : Nat) (E : String) : Prop :=
  ∃ (ik is ic sid : Nat) (tx : String), Cond.classLink own ik E ∈ mm_T ∧ Cond.initialized E ∈ mm_T ∧ sts own is = some (sid, tx) ∧ (∀ w ∈ vx_atS own ic E ["java/lang/RuntimeException", "java/lang/Exception"], w ∈ mm_T) ∧ Bundle.fit E = true ∧
    decode cc pc = .ok (.new ik, 3) ∧ decode cc (pc + 3) = .ok (.dup, 1) ∧
    ((decode cc (pc + 4) = .ok (.ldc is, 2) ∧ decode cc (pc + 6) = .ok (.invokespecial ic, 3) ∧ decode cc (pc + 9) = .ok (.athrow, 1) ∧ ∀ x ∈ tableOf hh, covers x (pc + 9) = false) ∨
     (decode cc (pc + 4) = .ok (.ldc_w is, 3) ∧ decode cc (pc + 7) = .ok (.invokespecial ic, 3) ∧ decode cc (pc + 10) = .ok (.athrow, 1) ∧ ∀ x ∈ tableOf hh, covers x (pc + 10) = false))
theorem mm_stN_lh {rho : Nat → Nat} {opq : Nat → Value} (ho : mm_opq opq) {ls' : Array Slot} {nL k : Nat} {L : mm_L} {w : Value} (hL : L.length = nL) (hk : k < L.length)
    (h' : lv_has ls' nL ((k, w) :: (mm_prs rho opq L).filter (fun q => !(q.1 == k) && !(q.1 + 1 == k && q.2.category == 2)))) : mm_lh rho opq ls' nL ((mm_kl L k).set k none) := by
  refine ⟨h'.1, h'.2.1, by rw [List.length_set, mm_kl_len]; exact hL, fun j v hj => ?_⟩
  rw [List.getElem?_set] at hj
  split at hj
  · split at hj <;> cases hj
  · rename_i hn
    obtain ⟨h1, h2⟩ := mm_kl_get hj
    refine h'.2.2 (j, mm_v rho opq v) (List.mem_cons_of_mem _ (List.mem_filter.mpr ⟨mm_prs_mem h1, ?_⟩))
    have n1 : (j == k) = false := by simpa using fun q : j = k => hn q.symm
    have n2 : (j + 1 == k && (mm_v rho opq v).category == 2) = false := by
      rw [mm_v_cat ho]
      cases hb : (j + 1 == k && v.category == 2) with
      | false => rfl
      | true =>
        simp only [Bool.and_eq_true, beq_iff_eq] at hb
        exact absurd hb h2
    show (!(j == k) && !(j + 1 == k && (mm_v rho opq v).category == 2)) = true
    rw [n1, n2]
    rfl
section MMS
variable {p : Program} {l : Launch} {e : Env} {R : Room} {s : State} {m : MethodId} {args : Array Value} {below : List Frame} {meth : Method} {c : Code} {H : Heap} {locs : List Loc} {cells slots : Nat} {Q : State → Prop}
variable {cc : ByteArray} {pc len : Nat} {ls : Array Slot} {rho : Nat → Nat} {opq : Nat → Value} {cA : Nat → ClassId} {D : va_G} {B : Nat} {P : mm_P} {σ : mm_H} {stn : Nat → String × String × String} {sts : String → Nat → Option (Nat × String)} {own : String}
/-- behind a call -/
theorem mm_ran {st0 rest : List Value} {a : Array Value} {res : mm_R} (hR : mm_rel rho opq cA D B s σ H locs cells) (hm : mm_mono σ res.2)
    (hr : vx_Run p l e R s m args below meth c H locs cells slots (res.2.2.2.1 - σ.2.2.1) (res.2.2.2.2 - σ.2.2.2) (F0 m pc ls st0) rest (mm_Qc rho opq cA D B res a) (mm_XC rho opq cA D B res) (fun q => B ≤ q))
    (kx : ∀ (E : String) (ce : Cell) (q : Addr) (H1 : Heap) (locs1 : List Loc), res.1 = .inr E → mm_rel rho opq cA D B s res.2 H1 locs1 (cells + (res.2.2.2.1 - σ.2.2.1)) → H1[q]? = some ce → ce.vm = .none → s.vm.findClass E = some ce.cls → vx_W p l e R s m args below meth c H1 locs1 (cells + (res.2.2.2.1 - σ.2.2.1)) (slots + (res.2.2.2.2 - σ.2.2.2)) Q (F0 m pc ls rest) q)
    (kk : ∀ (o : Option Value) (H1 : Heap) (locs1 : List Loc), res.1 = .inl o → mm_rel rho opq cA D B s res.2 H1 locs1 (cells + (res.2.2.2.1 - σ.2.2.1)) → W p l e R s m args below meth c H1 locs1 (cells + (res.2.2.2.1 - σ.2.2.1)) (slots + (res.2.2.2.2 - σ.2.2.2)) Q (F0 m (pc + 3) ls ((o.map (mm_v rho opq)).toList ++ rest))) : W p l e R s m args below meth c H locs cells slots Q (F0 m pc ls st0) := by
  have rel : ∀ (st₀ t T' : State) (L : List Loc), st₀.heap = H → T'.heap = t.heap → (∀ q ∈ L, (fun q => B ≤ q) q.base) → mm_pre rho opq cA D B res.2 t.heap → va_F (fun q => B ≤ q) st₀ t → mm_rel rho opq cA D B s res.2 T'.heap (locs ++ L) (cells + (res.2.2.2.1 - σ.2.2.1)) := by
    intro st₀ t T' L h0 e1 hL hp hF
    obtain ⟨k1, k2, k3⟩ := vx_keep h0 e1 hR.2.1 (fun _ _ h => h) (fun _ h => h) hL hF
    obtain ⟨p1, p2, p3, p4⟩ := hp
    refine ⟨by rw [e1]; exact p1, k3, fun hc => ?_, by rw [e1]; exact p3, p4⟩
    obtain ⟨m1, m2⟩ := hm.2.2 hc
    obtain ⟨r1, r2⟩ := hR.2.2.1 m1
    have m3 := hm.1
    have p5 := p2 hc
    rw [e1]
    omega
  intro T hT X
  rcases hr T hT X with ⟨v, st₀, t, T', L, h0, X', hL, e1, e2, ⟨⟨o, ho1, ho2⟩, hp, hF⟩, st⟩ | ⟨q, st₀, t, T', L, E, ce, h0, X', hL, e1, e2, ⟨hE, hp, hF⟩, hce, hcv, hcl, st⟩
  · cases ho2
    obtain ⟨t2, a1, b1⟩ := kk o T'.heap (locs ++ L) ho1 (rel st₀ t T' L h0 e1 hL hp hF) T' rfl X'
    exact ⟨t2, st t2 a1, b1⟩
  · obtain ⟨t2, a1, b1⟩ := kx E ce q T'.heap (locs ++ L) hE (rel st₀ t T' L h0 e1 hL hp hF) (by rw [e1]; exact hce) hcv hcl T' rfl X'
    exact ⟨t2, st.trans a1, b1⟩
/-- thrown, and caught here -/
theorem mm_caught {nL : Nat} {L : mm_L} {hh : List (Nat × Nat × Nat × Nat)} {hs : List (String × Nat × Nat × Nat)} {E : String} {ce : Cell} {q : Addr} {h len k : Nat} {rest : List Value} (hx : p.tables.exec = Jvm.exec) (hb : c.code = cc) (ho : mm_opq opq) (hts : ∀ w ∈ mm_T, w.before args s = true) (hown : s.vm.findClass own = some m.cls) (hEnv : mm_env P stn sts rho opq cA D B s) (htab : c.exceptionTable.toList = tableOf hh) (hl : mm_lh rho opq ls nL L) (hE : mm_hE own cc hh pc hs) (hlk : hs.lookup E = some (h, len, k)) (hk : k < L.length) (hcell : H[q]? = some ce) (hv : ce.vm = .none) (hcl : s.vm.findClass E = some ce.cls)
    (kk : ∀ ls' : Array Slot, mm_lh rho opq ls' nL ((mm_kl L k).set k none) → W p l e R s m args below meth c H locs cells slots Q (F0 m (h + len) ls' [])) : vx_W p l e R s m args below meth c H locs cells slots Q (F0 m pc ls rest) q := by
  obtain ⟨pre, x, suf, name, g1, g2, g3, g4, g5, g6, g7, g8⟩ := hE.2 E h len k hlk
  refine vx_catch hown pre x suf (htab.trans g1) (fun z hz => ?_) g3 g4 (hts _ g5) (hts _ g6) hcell hv hcl ?_
  · rcases g2 z hz with h2 | ⟨h2, nm, h3, h4, h5, h6⟩
    · exact Or.inl h2
    · exact Or.inr ⟨h2, nm, hts _ h3, hEnv.2.2.2.2.2.2.2.2.2 E h4 nm h5 h6⟩
  · rw [g7]
    have hH := mm_lh_has hl
    have hkn : k < nL := hl.2.2.1 ▸ hk
    rcases g8 with ⟨d1, rfl⟩ | ⟨k4, rfl, d1, rfl⟩
    · exact lv_astore hx hb d1 hH hkn rfl (fun ls' h' => kk ls' (mm_stN_lh ho hl.2.2.1 hk h'))
    · exact lv_astore_n hx hb d1 rfl hH hkn rfl (fun ls' h' => kk ls' (mm_stN_lh ho hl.2.2.1 hk h'))
theorem mm_pre_of (hR : mm_rel rho opq cA D B s σ H locs cells) {t : State} (ht : t.heap = H) : mm_pre rho opq cA D B σ t.heap := by
  rw [ht]
  exact ⟨hR.1, fun hc => (hR.2.2.1 hc).1, hR.2.2.2.1, hR.2.2.2.2⟩
/-- thrown, and out -/
theorem mm_outs {hh : List (Nat × Nat × Nat × Nat)} {E : String} {ce : Cell} {q : Addr} {rest : List Value} {mc ms : Nat} (htab : c.exceptionTable.toList = tableOf hh) (hno : ∀ x ∈ tableOf hh, covers x pc = false) (hlocks : meth.locks = false) (hR : mm_rel rho opq cA D B s σ H locs cells) (hcell : H[q]? = some ce) (hv : ce.vm = .none) (hcl : s.vm.findClass E = some ce.cls) (hc : cells ≤ mc) (hs : slots ≤ ms) :
    vx_W p l e R s m args below meth c H locs cells slots (vx_MQ below (mm_Qc rho opq cA D B (.inr E, σ)) (mm_XC rho opq cA D B (.inr E, σ)) args s mc ms (fun q => B ≤ q)) (F0 m pc ls rest) q :=
  vx_out (fun x hx => hno x (by rw [← htab]; exact hx)) hlocks hcell hv hcl (fun t ht _ => ⟨rfl, mm_pre_of hR ht, hR.2.1.F ht⟩) hR.2.1.2.2 hc hs
/-- throw new E("text") -/
theorem mm_thr_sim {hh : List (Nat × Nat × Nat × Nat)} {E : String} {S : List Value} {mc ms : Nat} (hx : p.tables.exec = Jvm.exec) (hb : c.code = cc) (ho : mm_opq opq) (hst : l.stackTraces = false) (hlocks : meth.locks = false) (hts : ∀ w ∈ mm_T, w.before args s = true) (hown : s.vm.findClass own = some m.cls) (hEnv : mm_env P stn sts rho opq cA D B s) (hml : c.maxLocals = ls.size) (htab : c.exceptionTable.toList = tableOf hh) (hfr : 7 ≤ R.frames) (hlo : 150 ≤ R.locals) (hR : mm_rel rho opq cA D B s σ H locs cells) (hE : mm_tE sts own cc hh pc E) (h24 : mm_sum S ≤ 24) (hc1 : cells + 1 ≤ R.cells) (hs1 : slots + 6 ≤ R.slots) (hc : cells + 1 ≤ mc) (hs : slots + 6 ≤ ms) :
    W p l e R s m args below meth c H locs cells slots (vx_MQ below (mm_Qc rho opq cA D B (.inr E, (σ.1, false, σ.2.2.1 + 1, σ.2.2.2 + 6))) (mm_XC rho opq cA D B (.inr E, (σ.1, false, σ.2.2.1 + 1, σ.2.2.2 + 6))) args s mc ms (fun q => B ≤ q)) (F0 m pc ls (S.map (mm_v rho opq))) := by
  obtain ⟨ik, is, ic, sid, tx, g1, g2, g3, g4, g5, g6, g7, g8⟩ := hE
  have hstr := hEnv.2.2.2.2.1 own is sid tx g3
  have hU := hEnv.2.2.2.2.2.2.2.1
  have hN := hEnv.2.2.2.2.2.2.2.2.1
  have hxx : ∀ t : State, s.vm.Alike t.vm → H.size ≤ t.heap.size → (∀ q : Nat, q < H.size → t.heap[q]? = H[q]?) → mm_XC rho opq cA D B (.inr E, (σ.1, false, σ.2.2.1 + 1, σ.2.2.2 + 6)) E s t := by
    intro t _ hz hq
    refine ⟨rfl, ⟨fun k q hk => ?_, (fun z => nomatch z), Nat.le_trans hR.2.2.2.1 hz, hR.2.2.2.2⟩, Nat.le_trans hR.2.1.1 hz, fun q h1 h2 => ?_⟩
    · have h9 := hR.1 k q hk
      exact h9.kept (hq q.1 h9.lt)
    · rw [hq q (Nat.lt_of_lt_of_le h1 hR.2.1.1)]
      exact hR.2.1.2.1 q h1 h2
  have hat : ∀ w ∈ vx_atS own ic E ["java/lang/RuntimeException", "java/lang/Exception"], w.before args s = true := fun w hw => hts w (g4 w hw)
  have hgood : ∀ w ∈ Cond.classLink own ik E :: Cond.initialized E :: vx_atS own ic E ["java/lang/RuntimeException", "java/lang/Exception"], vx_ot w = true := by
    intro w hw
    rcases List.mem_cons.mp hw with rfl | hw
    · exact mm_T_ot g1
    · rcases List.mem_cons.mp hw with rfl | hw
      · exact mm_T_ot g2
      · exact mm_T_ot (g4 w hw)
  have hnm : ∀ n ∈ ["java/lang/RuntimeException", "java/lang/Exception"], Bundle.fit n = true := by decide +kernel
  have hrl : ((S.map (mm_v rho opq)).map fun v => v.category).sum + (13 * (["java/lang/RuntimeException", "java/lang/Exception"].length + 1) + 43) ≤ R.locals := by
    rw [mm_sum_v ho]
    show mm_sum S + (13 * 3 + 43) ≤ R.locals
    omega
  have hrf : ["java/lang/RuntimeException", "java/lang/Exception"].length + 3 < R.frames := by
    show 5 < R.frames
    omega
  rcases g8 with ⟨d4, d6, d9, hno⟩ | ⟨d4, d7, d10, hno⟩
  · exact vx_throwS hx hb hst hown g5 hnm (hts _ g1) (hts _ g2) hstr hat hgood hU hN hR.2.1 hml.symm g6 g7 d4 d6 d9 (fun x hx9 => hno x (by rw [← htab]; exact hx9)) hrf hrl hc1 hs1 hlocks hxx hR.2.1.2.2 hc hs
  · exact vx_throwSW hx hb hst hown g5 hnm (hts _ g1) (hts _ g2) hstr hat hgood hU hN hR.2.1 hml.symm g6 g7 d4 d7 d10 (fun x hx9 => hno x (by rw [← htab]; exact hx9)) hrf hrl hc1 hs1 hlocks hxx hR.2.1.2.2 hc hs
end MMS
