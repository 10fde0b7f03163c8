/-! THE LAW: both sides together -/
theorem cT.rF {G G' : mg_G} {S : a_S} (h : cT G S) (f : rF G G') : cT G' S := by
  have f : mg_fr (fun b => 148 ≤ b ∧ b ≤ 168) G G' := fun a ha => f a (by omega)
  obtain ⟨g1, g2, g3, g4, g5, g6, g7, g8⟩ := h
  have e3 := (f 3 (by decide)).2.2.2.2
  exact ⟨g1.fr f (fun a ha => by unfold kQ at ha; omega), g2, g3.fr f (fun a ha => by omega), g4.fr f (fun a ha => by omega), g5.fr f (by decide) (by decide), ⟨(congrFun e3 6).trans g6.1, (congrFun e3 7).trans g6.2⟩, g7.fr f (by decide) (by decide), g8.fr f (by decide) (fun a ha => by unfold kG at ha; omega)⟩
theorem rT.fc {G G' : mg_G} {S : a_S} (h : rT G S) (f : mg_fr (fun b => b < 148 ∨ 168 < b) G G') : rT G' S := by
  obtain ⟨h1, h2, h3, h4, h5, ⟨h6, h7⟩, h8⟩ := h
  have e148 := (f 148 (by decide)).2.2.2.2
  have e149 := (f 149 (by decide)).1
  have e150 := (f 150 (by decide)).2.1
  have e151 := (f 151 (by decide)).1
  have e152 := (f 152 (by decide)).1
  have e153 := (f 153 (by decide)).1
  have e154 := (f 154 (by decide)).2.1
  have bs : ∀ {c : Nat} {B : a_A}, bS G c B → bS G' c B := fun h => ⟨h.1.c e149 e150, h.2⟩
  exact ⟨fun v hv => (congrFun e154 v).trans (h1 v hv), bs h2, ⟨(congrFun e148 3).trans h3.1, h3.2.1, fun i B hi => bs (h3.2.2 i B hi)⟩, fun s hs => ⟨(congrFun e151 s).trans (h4 s hs).1, fun B hB => bs ((h4 s hs).2 B hB)⟩, ⟨(congrFun e148 5).trans h5.1, h5.2.1, fun i c hi => ⟨(congrFun e152 i).trans (h5.2.2 i c hi).1, (h5.2.2 i c hi).2⟩⟩, ⟨(congrFun e148 6).trans h6, (congrFun e148 7).trans h7⟩, ⟨(congrFun e148 9).trans h8.1, h8.2.1, fun i c hi => ⟨(congrFun e153 i).trans (h8.2.2 i c hi).1, (h8.2.2 i c hi).2⟩⟩⟩
/-- the reference's answer a, the state S' then -/
def rW9 (G : mg_G) (S' : a_S) (a : qR) : mg_Q := fun o q G' => o = .inl (some (.int a.2)) ∧ q = 0 ∧ rT G' S' ∧ rF G G' ∧ G'.2.2.2.2 148 10 = .int a.1
theorem rA.W9 {G G' : mg_G} {S' : a_S} {a : qR} {o : Option Value ⊕ String} {q : Nat} (w : rA G S' a o q G') : rW9 G S' a o q G' := ⟨w.2.1, w.1, w.2.2.2.1, w.2.2.2.2, w.2.2.1⟩
theorem rQ.W9 {G G' : mg_G} {S : a_S} {a : qR} {o : Option Value ⊕ String} {q : Nat} (hT : rT G S) (w : rQ G a o q G') : rW9 G S a o q G' := ⟨w.2.1, w.1, (hT.s10 _).X w.2.2, (rF.s G 10 _).tr w.2.2.F, (w.2.2.2.2.2 148 10 (by decide)).trans (mg_sF_at _ _ _ _)⟩
theorem mg_v.W9 {G G' : mg_G} {S : a_S} {a : qR} {o : Option Value ⊕ String} {q : Nat} (hT : rT G S) (w : mg_v (.int a.2) (mg_sF G 148 10 (.int a.1)) o q G') : rW9 G S a o q G' := by
  obtain ⟨rfl, rfl, rfl⟩ := w
  exact ⟨rfl, rfl, hT.s10 _, rF.s G 10 _, mg_sF_at _ _ _ _⟩
def rW8 (G : mg_G) (S' : a_S) (a : Int32 × UInt64) : mg_Q := fun o q G' => o = .inl (some (.double a.2)) ∧ q = 0 ∧ rT G' S' ∧ rF G G' ∧ G'.2.2.2.2 148 10 = .int a.1
section RM
variable {scr : Nat × (Nat → Int32)} {t : List mg_S} {G : mg_G} {S : a_S}
theorem u206 (d : Nat) (hT : rT G S) (a : Int32) (b : Int32) (c : Int32) (e : Int32) (f : Int32) : mg_m (mg_KM scr t) (d + 820) 206 [.ref 148, .int a, .int b, .int c, .int e, .int f] G (rW9 G ((p206 S a b c e f)).1 ((p206 S a b c e f)).2) := mg_m_mono (r206 d hT a b c e f) (by have h8 : aV (sA S) < 9 := hT.I.v8; omega) (fun o q G1 w => rA.W9 w)
theorem u207 (d : Nat) (hT : rT G S) (n : Int32) : mg_m (mg_KM scr t) (d + 820) 207 [.ref 148, .int n] G (rW9 G ((p207 S n)).1 ((p207 S n)).2) := mg_m_mono (r207 d hT n) (by have h8 : aV (sA S) < 9 := hT.I.v8; omega) (fun o q G1 w => rA.W9 w)
theorem u245 (d : Nat) (hT : rT G S)  : mg_m (mg_KM scr t) (d + 820) 245 [.ref 148] G (rW9 G ((p245 S)).1 ((p245 S)).2) := mg_m_mono (r245 d hT ) (by have h8 : aV (sA S) < 9 := hT.I.v8; omega) (fun o q G1 w => rA.W9 w)
theorem u254 (d : Nat) (hT : rT G S)  : mg_m (mg_KM scr t) (d + 820) 254 [.ref 148] G (rW9 G S (0, sC S)) := mg_m_mono (r254 d hT ) (by have h8 : aV (sA S) < 9 := hT.I.v8; omega) (fun o q G1 w => rA.W9 w)
theorem u255 (d : Nat) (hT : rT G S)  : mg_m (mg_KM scr t) (d + 820) 255 [.ref 148] G (rW9 G S (0, sP S)) := mg_m_mono (r255 d hT ) (by have h8 : aV (sA S) < 9 := hT.I.v8; omega) (fun o q G1 w => rA.W9 w)
theorem u260 (d : Nat) (hT : rT G S) (w : Int32) : mg_m (mg_KM scr t) (d + 820) 260 [.ref 148, .int w] G (rW9 G S (q260 (sA S) (sU S).length w)) := mg_m_mono (r260 d hT.I (sU S).length hT.2.2.1.1 w) (by have h8 : aV (sA S) < 9 := hT.I.v8; omega) (fun o q G1 w => rQ.W9 hT w)
theorem u261 (d : Nat) (hT : rT G S) (v : Int32) (w : Int32) : mg_m (mg_KM scr t) (d + 820) 261 [.ref 148, .int v, .int w] G (rW9 G S (q261 (sA S) v w)) := mg_m_mono (r261 d hT.I v w) (by have h8 : aV (sA S) < 9 := hT.I.v8; omega) (fun o q G1 w => rQ.W9 hT w)
theorem u262 (d : Nat) (hT : rT G S) (v : Int32) : mg_m (mg_KM scr t) (d + 820) 262 [.ref 148, .int v] G (rW9 G S (q262 (sA S) v)) := mg_m_mono (r262 d hT.I v) (by have h8 : aV (sA S) < 9 := hT.I.v8; omega) (fun o q G1 w => mg_v.W9 hT w)
theorem u264 (d : Nat) (hT : rT G S) (f : Int32) (w : Int32) : mg_m (mg_KM scr t) (d + 820) 264 [.ref 148, .int f, .int w] G (rW9 G S (q264 (sA S) f w)) := mg_m_mono (r264 d hT.I f w) (by have h8 : aV (sA S) < 9 := hT.I.v8; omega) (fun o q G1 w => rQ.W9 hT w)
theorem u266 (d : Nat) (hT : rT G S)  : mg_m (mg_KM scr t) (d + 820) 266 [.ref 148] G (rW9 G S (q266 S)) := mg_m_mono (r266 d hT ) (by have h8 : aV (sA S) < 9 := hT.I.v8; omega) (fun o q G1 w => rA.W9 w)
theorem u267 (d : Nat) (hT : rT G S) (k : Int32) (w : Int32) : mg_m (mg_KM scr t) (d + 820) 267 [.ref 148, .int k, .int w] G (rW9 G S (q267 (sA S) k w)) := mg_m_mono (r267 d hT.I k w) (by have h8 : aV (sA S) < 9 := hT.I.v8; omega) (fun o q G1 w => rQ.W9 hT w)
theorem u268 (d : Nat) (hT : rT G S) (f : Int32) (x : Int32) : mg_m (mg_KM scr t) (d + 820) 268 [.ref 148, .int f, .int x] G (rW9 G S (q268 (sA S) f x)) := mg_m_mono (r268 d hT.I f x) (by have h8 : aV (sA S) < 9 := hT.I.v8; omega) (fun o q G1 w => mg_v.W9 hT w)
theorem u270 (d : Nat) (hT : rT G S) (f : Int32) (x : Int32) : mg_m (mg_KM scr t) (d + 820) 270 [.ref 148, .int f, .int x] G (rW9 G S (q270 (sA S) f x)) := mg_m_mono (r270 d hT.I f x) (by have h8 : aV (sA S) < 9 := hT.I.v8; omega) (fun o q G1 w => mg_v.W9 hT w)
theorem u271 (d : Nat) (hT : rT G S) (f : Int32) : mg_m (mg_KM scr t) (d + 820) 271 [.ref 148, .int f] G (rW9 G S (q271 (sA S) f)) := mg_m_mono (r271 d hT.I f) (by have h8 : aV (sA S) < 9 := hT.I.v8; omega) (fun o q G1 w => mg_v.W9 hT w)
theorem u272 (d : Nat) (hT : rT G S) (f : Int32) (v : Int32) : mg_m (mg_KM scr t) (d + 820) 272 [.ref 148, .int f, .int v] G (rW9 G S (q272 (sA S) f v)) := mg_m_mono (r272 d hT.I f v) (by have h8 : aV (sA S) < 9 := hT.I.v8; omega) (fun o q G1 w => mg_v.W9 hT w)
theorem u273 (d : Nat) (hT : rT G S) (f : Int32) (v : Int32) : mg_m (mg_KM scr t) (d + 820) 273 [.ref 148, .int f, .int v] G (rW9 G S (q273 (sA S) f v)) := mg_m_mono (r273 d hT.I f v) (by have h8 : aV (sA S) < 9 := hT.I.v8; omega) (fun o q G1 w => mg_v.W9 hT w)
theorem u275 (d : Nat) (hT : rT G S) (f : Int32) (x : Int32) : mg_m (mg_KM scr t) (d + 820) 275 [.ref 148, .int f, .int x] G (rW9 G S (q275 (sA S) f x)) := mg_m_mono (r275 d hT.I f x) (by have h8 : aV (sA S) < 9 := hT.I.v8; omega) (fun o q G1 w => rQ.W9 hT w)
theorem u277 (d : Nat) (hT : rT G S) (f : Int32) (x : Int32) : mg_m (mg_KM scr t) (d + 820) 277 [.ref 148, .int f, .int x] G (rW9 G S (q277 (sA S) f x)) := mg_m_mono (r277 d hT.I f x) (by have h8 : aV (sA S) < 9 := hT.I.v8; omega) (fun o q G1 w => rQ.W9 hT w)
theorem u279 (d : Nat) (hT : rT G S) (f : Int32) : mg_m (mg_KM scr t) (d + 820) 279 [.ref 148, .int f] G (rW9 G S (q279 (sA S) f)) := mg_m_mono (r279 d hT.I f) (by have h8 : aV (sA S) < 9 := hT.I.v8; omega) (fun o q G1 w => rQ.W9 hT w)
theorem u282 (d : Nat) (hT : rT G S) (f : Int32) : mg_m (mg_KM scr t) (d + 820) 282 [.ref 148, .int f] G (rW9 G S (q282 (sA S) f)) := mg_m_mono (r282 d hT.I f) (by have h8 : aV (sA S) < 9 := hT.I.v8; omega) (fun o q G1 w => mg_v.W9 hT w)
theorem u283 (d : Nat) (hT : rT G S) (f : Int32) : mg_m (mg_KM scr t) (d + 820) 283 [.ref 148, .int f] G (rW9 G S (q283 (sA S) f)) := mg_m_mono (r283 d hT.I f) (by have h8 : aV (sA S) < 9 := hT.I.v8; omega) (fun o q G1 w => mg_v.W9 hT w)
theorem u285 (d : Nat) (hT : rT G S) (f : Int32) : mg_m (mg_KM scr t) (d + 820) 285 [.ref 148, .int f] G (rW8 G S (q285 (sA S) f)) := mg_m_mono (r285 d hT.I f) (by have h8 : aV (sA S) < 9 := hT.I.v8; omega) (fun o q G1 w => ⟨w.2.1, w.1, (hT.s10 _).X w.2.2, (rF.s G 10 _).tr w.2.2.F, (w.2.2.2.2.2 148 10 (by decide)).trans (mg_sF_at _ _ _ _)⟩)
theorem u286 (d : Nat) (hT : rT G S) (f : Int32) (g : Int32) : mg_m (mg_KM scr t) (d + 820) 286 [.ref 148, .int f, .int g] G (rW9 G S (q286 (sA S) f g)) := mg_m_mono (r286 d hT.I f g) (by have h8 : aV (sA S) < 9 := hT.I.v8; omega) (fun o q G1 w => mg_v.W9 hT w)
theorem u287 (d : Nat) (hT : rT G S) (f : Int32) (g : Int32) : mg_m (mg_KM scr t) (d + 820) 287 [.ref 148, .int f, .int g] G (rW9 G S (q287 (sA S) f g)) := mg_m_mono (r287 d hT.I f g) (by have h8 : aV (sA S) < 9 := hT.I.v8; omega) (fun o q G1 w => mg_v.W9 hT w)
theorem u288 (d : Nat) (hT : rT G S) (f : Int32) (g : Int32) : mg_m (mg_KM scr t) (d + 820) 288 [.ref 148, .int f, .int g] G (rW9 G S (q288 (sA S) f g)) := mg_m_mono (r288 d hT.I f g) (by have h8 : aV (sA S) < 9 := hT.I.v8; omega) (fun o q G1 w => mg_v.W9 hT w)
theorem u289 (d : Nat) (hT : rT G S) (f : Int32) : mg_m (mg_KM scr t) (d + 820) 289 [.ref 148, .int f] G (rW9 G S (q289 (sA S) f)) := mg_m_mono (r289 d hT.I f) (by have h8 : aV (sA S) < 9 := hT.I.v8; omega) (fun o q G1 w => mg_v.W9 hT w)
theorem u290 (d : Nat) (hT : rT G S) (f : Int32) (g : Int32) : mg_m (mg_KM scr t) (d + 820) 290 [.ref 148, .int f, .int g] G (rW9 G S (q290 (sA S) f g)) := mg_m_mono (r290 d hT.I f g) (by have h8 : aV (sA S) < 9 := hT.I.v8; omega) (fun o q G1 w => rQ.W9 hT w)
theorem u293 (d : Nat) (hT : rT G S) (f : Int32) (g : Int32) : mg_m (mg_KM scr t) (d + 820) 293 [.ref 148, .int f, .int g] G (rW9 G S (q293 (sA S) f g)) := mg_m_mono (r293 d hT.I f g) (by have h8 : aV (sA S) < 9 := hT.I.v8; omega) (fun o q G1 w => rQ.W9 hT w)
theorem u295 (d : Nat) (hT : rT G S) (op : Int32) (f : Int32) (g : Int32) : mg_m (mg_KM scr t) (d + 820) 295 [.ref 148, .int op, .int f, .int g] G (rW9 G S (q295 (sA S) op f g)) := mg_m_mono (r295 d hT.I op f g) (by have h8 : aV (sA S) < 9 := hT.I.v8; omega) (fun o q G1 w => rQ.W9 hT w)
theorem u302 (d : Nat) (hT : rT G S) (v : Int32) (l : Int32) : mg_m (mg_KM scr t) (d + 820) 302 [.ref 148, .int v, .int l] G (rW9 G S (q302 (sA S) v l)) := mg_m_mono (r302 d hT.I v l) (by have h8 : aV (sA S) < 9 := hT.I.v8; omega) (fun o q G1 w => rQ.W9 hT w)
theorem u303 (d : Nat) (hT : rT G S) (v : Int32) : mg_m (mg_KM scr t) (d + 820) 303 [.ref 148, .int v] G (rW9 G S (q303 (sA S) v)) := mg_m_mono (r303 d hT.I v) (by have h8 : aV (sA S) < 9 := hT.I.v8; omega) (fun o q G1 w => rQ.W9 hT w)
theorem u304 (d : Nat) (hT : rT G S) (l : Int32) : mg_m (mg_KM scr t) (d + 820) 304 [.ref 148, .int l] G (rW9 G S (q304 (sA S) l)) := mg_m_mono (r304 d hT.I l) (by have h8 : aV (sA S) < 9 := hT.I.v8; omega) (fun o q G1 w => rQ.W9 hT w)
theorem u307 (d : Nat) (hT : rT G S) (op : Int32) (f : Int32) (g : Int32) : mg_m (mg_KM scr t) (d + 820) 307 [.ref 148, .int op, .int f, .int g] G (rW9 G ((p307 S op f g)).1 ((p307 S op f g)).2) := mg_m_mono (r307 d hT op f g) (by have h8 : aV (sA S) < 9 := hT.I.v8; omega) (fun o q G1 w => rA.W9 w)
theorem u308 (d : Nat) (hT : rT G S) (f : Int32) (g : Int32) (h : Int32) : mg_m (mg_KM scr t) (d + 820) 308 [.ref 148, .int f, .int g, .int h] G (rW9 G ((p308 S f g h)).1 ((p308 S f g h)).2) := mg_m_mono (r308 d hT f g h) (by have h8 : aV (sA S) < 9 := hT.I.v8; omega) (fun o q G1 w => rA.W9 w)
theorem u309 (d : Nat) (hT : rT G S) (f : Int32) : mg_m (mg_KM scr t) (d + 820) 309 [.ref 148, .int f] G (rW9 G ((p309 S f)).1 ((p309 S f)).2) := mg_m_mono (r309 d hT f) (by have h8 : aV (sA S) < 9 := hT.I.v8; omega) (fun o q G1 w => rA.W9 w)
theorem u310 (d : Nat) (hT : rT G S) (f : Int32) (v : Int32) (b : Bool) : mg_m (mg_KM scr t) (d + 820) 310 [.ref 148, .int f, .int v, .int (if b then 1 else 0)] G (rW9 G ((p310 S f v b)).1 ((p310 S f v b)).2) := mg_m_mono (r310 d hT f v b) (by have h8 : aV (sA S) < 9 := hT.I.v8; omega) (fun o q G1 w => rA.W9 w)
theorem u311 (d : Nat) (hT : rT G S) (f : Int32) (v : Int32) (b : Bool) : mg_m (mg_KM scr t) (d + 820) 311 [.ref 148, .int f, .int v, .int (if b then 1 else 0)] G (rW9 G ((p311 S f v b)).1 ((p311 S f v b)).2) := mg_m_mono (r311 d hT f v b) (by have h8 : aV (sA S) < 9 := hT.I.v8; omega) (fun o q G1 w => rA.W9 w)
theorem u312 (d : Nat) (hT : rT G S) (f : Int32) (v : Int32) (g : Int32) : mg_m (mg_KM scr t) (d + 820) 312 [.ref 148, .int f, .int v, .int g] G (rW9 G ((p312 S f v g)).1 ((p312 S f v g)).2) := mg_m_mono (r312 d hT f v g) (by have h8 : aV (sA S) < 9 := hT.I.v8; omega) (fun o q G1 w => rA.W9 w)
theorem u314 (d : Nat) (hT : rT G S) (f : Int32) : mg_m (mg_KM scr t) (d + 820) 314 [.ref 148, .int f] G (rW9 G ((p314 S f)).1 ((p314 S f)).2) := mg_m_mono (r314 d hT f) (by have h8 : aV (sA S) < 9 := hT.I.v8; omega) (fun o q G1 w => rA.W9 w)
theorem u315 (d : Nat) (hT : rT G S) (l : Int32) : mg_m (mg_KM scr t) (d + 820) 315 [.ref 148, .int l] G (rW9 G ((p315 S l)).1 ((p315 S l)).2) := mg_m_mono (r315 d hT l) (by have h8 : aV (sA S) < 9 := hT.I.v8; omega) (fun o q G1 w => rA.W9 w)
theorem u316 (d : Nat) (hT : rT G S) (v : Int32) (l : Int32) : mg_m (mg_KM scr t) (d + 820) 316 [.ref 148, .int v, .int l] G (rW9 G ((p316 S v l)).1 ((p316 S v l)).2) := mg_m_mono (r316 d hT v l) (by have h8 : aV (sA S) < 9 := hT.I.v8; omega) (fun o q G1 w => rA.W9 w)
theorem u317 (d : Nat) (hT : rT G S) (v : Int32) : mg_m (mg_KM scr t) (d + 820) 317 [.ref 148, .int v] G (rW9 G ((p317 S v)).1 ((p317 S v)).2) := mg_m_mono (r317 d hT v) (by have h8 : aV (sA S) < 9 := hT.I.v8; omega) (fun o q G1 w => rA.W9 w)
theorem u318 (d : Nat) (hT : rT G S)  : mg_m (mg_KM scr t) (d + 820) 318 [.ref 148] G (rW9 G ((p318 S)).1 ((p318 S)).2) := mg_m_mono (r318 d hT ) (by have h8 : aV (sA S) < 9 := hT.I.v8; omega) (fun o q G1 w => rA.W9 w)
theorem u319 (d : Nat) (hT : rT G S) (v : Int32) (c : Int32) : mg_m (mg_KM scr t) (d + 820) 319 [.ref 148, .int v, .int c] G (rW9 G ((p319 S v c)).1 ((p319 S v c)).2) := mg_m_mono (r319 d hT v c) (by have h8 : aV (sA S) < 9 := hT.I.v8; omega) (fun o q G1 w => rA.W9 w)
theorem u320 (d : Nat) (hT : rT G S) (v : Int32) (c : Int32) : mg_m (mg_KM scr t) (d + 820) 320 [.ref 148, .int v, .int c] G (rW9 G ((p320 S v c)).1 ((p320 S v c)).2) := mg_m_mono (r320 d hT v c) (by have h8 : aV (sA S) < 9 := hT.I.v8; omega) (fun o q G1 w => rA.W9 w)
theorem u253 (d : Nat) (hT : rT G S)  : mg_m (mg_KM scr t) (d + 820) 253 [.ref 148] G (rW9 G ((p253 S)).1 ((p253 S)).2) := mg_m_mono (r253 d hT ) (by have h8 : aV (sA S) < 9 := hT.I.v8; omega) (fun o q G1 w => rA.W9 w)
theorem u321 (d : Nat) (hT : rT G S)  : mg_m (mg_KM scr t) (d + 820) 321 [.ref 148] G (rW9 G ((p321 S)).1 ((p321 S)).2) := mg_m_mono (r321 d hT ) (by have h8 : aV (sA S) < 9 := hT.I.v8; omega) (fun o q G1 w => rA.W9 w)
theorem u322 (d : Nat) (hT : rT G S) (s : Int32) : mg_m (mg_KM scr t) (d + 820) 322 [.ref 148, .int s] G (rW9 G ((p322 S s)).1 ((p322 S s)).2) := mg_m_mono (r322 d hT s) (by have h8 : aV (sA S) < 9 := hT.I.v8; omega) (fun o q G1 w => rA.W9 w)
theorem u323 (d : Nat) (hT : rT G S) (s : Int32) : mg_m (mg_KM scr t) (d + 820) 323 [.ref 148, .int s] G (rW9 G ((p323 S s)).1 ((p323 S s)).2) := mg_m_mono (r323 d hT s) (by have h8 : aV (sA S) < 9 := hT.I.v8; omega) (fun o q G1 w => rA.W9 w)
theorem u327 (d : Nat) (hT : rT G S) (f : Int32) : mg_m (mg_KM scr t) (d + 820) 327 [.ref 148, .int f] G (rW9 G ((p327 S f)).1 ((p327 S f)).2) := mg_m_mono (r327 d hT f) (by have h8 : aV (sA S) < 9 := hT.I.v8; omega) (fun o q G1 w => rA.W9 w)
theorem u328 (d : Nat) (hT : rT G S)  : mg_m (mg_KM scr t) (d + 820) 328 [.ref 148] G (rW9 G ((p328 S)).1 ((p328 S)).2) := mg_m_mono (r328 d hT ) (by have h8 : aV (sA S) < 9 := hT.I.v8; omega) (fun o q G1 w => rA.W9 w)
theorem u329 (d : Nat) (hT : rT G S) (i : Int32) : mg_m (mg_KM scr t) (d + 820) 329 [.ref 148, .int i] G (rW9 G S (q329 S i)) := mg_m_mono (r329 d hT i) (by have h8 : aV (sA S) < 9 := hT.I.v8; omega) (fun o q G1 w => rA.W9 w)
end RM
/-! the answers' first parts -/
abbrev q1_ (x : Int32) : Prop := x = 0 ∨ x = 1
abbrev q2_ (x : Int32) : Prop := x = 0 ∨ x = 1 ∨ x = 2
abbrev q3_ (x : Int32) : Prop := x = 0 ∨ x = 1 ∨ x = 2 ∨ x = 3
section RM
variable {S : a_S}
theorem g206_ (a : Int32) (b : Int32) (c : Int32) (e : Int32) (f : Int32) : q1_ (((p206 S a b c e f)).2).1 := by
  unfold p206
  first | (repeat' split) | skip
  all_goals first | exact Or.inl rfl | exact Or.inr (Or.inl rfl) | exact Or.inr rfl | exact Or.inr (Or.inr rfl) | exact Or.inr (Or.inr (Or.inl rfl)) | exact Or.inr (Or.inr (Or.inr rfl))
theorem g207_ (n : Int32) : q1_ (((p207 S n)).2).1 := by
  unfold p207
  first | (repeat' split) | skip
  all_goals first | exact Or.inl rfl | exact Or.inr (Or.inl rfl) | exact Or.inr rfl | exact Or.inr (Or.inr rfl) | exact Or.inr (Or.inr (Or.inl rfl)) | exact Or.inr (Or.inr (Or.inr rfl))
theorem g245_  : q1_ (((p245 S)).2).1 := by
  unfold p245 sLd
  split
  · exact Or.inr rfl
  · exact Or.inl rfl
theorem g260_ (w : Int32) : q1_ ((q260 (sA S) (sU S).length w)).1 := by
  unfold q260
  first | (repeat' split) | skip
  all_goals first | exact Or.inl rfl | exact Or.inr (Or.inl rfl) | exact Or.inr rfl | exact Or.inr (Or.inr rfl) | exact Or.inr (Or.inr (Or.inl rfl)) | exact Or.inr (Or.inr (Or.inr rfl))
theorem g261_ (v : Int32) (w : Int32) : q2_ ((q261 (sA S) v w)).1 := by
  unfold q261 qV
  first | (repeat' split) | skip
  all_goals first | exact Or.inl rfl | exact Or.inr (Or.inl rfl) | exact Or.inr rfl | exact Or.inr (Or.inr rfl) | exact Or.inr (Or.inr (Or.inl rfl)) | exact Or.inr (Or.inr (Or.inr rfl))
theorem g262_ (v : Int32) : q1_ ((q262 (sA S) v)).1 := by
  unfold q262 qV
  first | (repeat' split) | skip
  all_goals first | exact Or.inl rfl | exact Or.inr (Or.inl rfl) | exact Or.inr rfl | exact Or.inr (Or.inr rfl) | exact Or.inr (Or.inr (Or.inl rfl)) | exact Or.inr (Or.inr (Or.inr rfl))
theorem g264_ (f : Int32) (w : Int32) : q2_ ((q264 (sA S) f w)).1 := by
  unfold q264 qF
  first | (repeat' split) | skip
  all_goals first | exact Or.inl rfl | exact Or.inr (Or.inl rfl) | exact Or.inr rfl | exact Or.inr (Or.inr rfl) | exact Or.inr (Or.inr (Or.inl rfl)) | exact Or.inr (Or.inr (Or.inr rfl))
theorem g266_  : q1_ ((q266 S)).1 := by
  unfold q266
  first | (repeat' split) | skip
  all_goals first | exact Or.inl rfl | exact Or.inr (Or.inl rfl) | exact Or.inr rfl | exact Or.inr (Or.inr rfl) | exact Or.inr (Or.inr (Or.inl rfl)) | exact Or.inr (Or.inr (Or.inr rfl))
theorem g267_ (k : Int32) (w : Int32) : q2_ ((q267 (sA S) k w)).1 := by
  unfold q267
  first | (repeat' split) | skip
  all_goals first | exact Or.inl rfl | exact Or.inr (Or.inl rfl) | exact Or.inr rfl | exact Or.inr (Or.inr rfl) | exact Or.inr (Or.inr (Or.inl rfl)) | exact Or.inr (Or.inr (Or.inr rfl))
theorem g268_ (f : Int32) (x : Int32) : q2_ ((q268 (sA S) f x)).1 := by
  unfold q268 qF
  first | (repeat' split) | skip
  all_goals first | exact Or.inl rfl | exact Or.inr (Or.inl rfl) | exact Or.inr rfl | exact Or.inr (Or.inr rfl) | exact Or.inr (Or.inr (Or.inl rfl)) | exact Or.inr (Or.inr (Or.inr rfl))
theorem g270_ (f : Int32) (x : Int32) : q2_ ((q270 (sA S) f x)).1 := by
  unfold q270 qF
  split
  · exact Or.inr (Or.inl rfl)
  · dsimp only
    split
    · exact Or.inr (Or.inr rfl)
    · exact Or.inl rfl
theorem g271_ (f : Int32) : q1_ ((q271 (sA S) f)).1 := by
  unfold q271 qF
  first | (repeat' split) | skip
  all_goals first | exact Or.inl rfl | exact Or.inr (Or.inl rfl) | exact Or.inr rfl | exact Or.inr (Or.inr rfl) | exact Or.inr (Or.inr (Or.inl rfl)) | exact Or.inr (Or.inr (Or.inr rfl))
theorem g272_ (f : Int32) (v : Int32) : q1_ ((q272 (sA S) f v)).1 := by
  unfold q272 qF qV
  first | (repeat' split) | skip
  all_goals first | exact Or.inl rfl | exact Or.inr (Or.inl rfl) | exact Or.inr rfl | exact Or.inr (Or.inr rfl) | exact Or.inr (Or.inr (Or.inl rfl)) | exact Or.inr (Or.inr (Or.inr rfl))
theorem g273_ (f : Int32) (v : Int32) : q1_ ((q273 (sA S) f v)).1 := by
  unfold q273 qF qV
  first | (repeat' split) | skip
  all_goals first | exact Or.inl rfl | exact Or.inr (Or.inl rfl) | exact Or.inr rfl | exact Or.inr (Or.inr rfl) | exact Or.inr (Or.inr (Or.inl rfl)) | exact Or.inr (Or.inr (Or.inr rfl))
theorem g275_ (f : Int32) (x : Int32) : q2_ ((q275 (sA S) f x)).1 := by
  unfold q275 qF
  first | (repeat' split) | skip
  all_goals first | exact Or.inl rfl | exact Or.inr (Or.inl rfl) | exact Or.inr rfl | exact Or.inr (Or.inr rfl) | exact Or.inr (Or.inr (Or.inl rfl)) | exact Or.inr (Or.inr (Or.inr rfl))
theorem g277_ (f : Int32) (x : Int32) : q2_ ((q277 (sA S) f x)).1 := by
  unfold q277 qF
  first | (repeat' split) | skip
  all_goals first | exact Or.inl rfl | exact Or.inr (Or.inl rfl) | exact Or.inr rfl | exact Or.inr (Or.inr rfl) | exact Or.inr (Or.inr (Or.inl rfl)) | exact Or.inr (Or.inr (Or.inr rfl))
theorem g279_ (f : Int32) : q1_ ((q279 (sA S) f)).1 := by
  unfold q279 qF
  first | (repeat' split) | skip
  all_goals first | exact Or.inl rfl | exact Or.inr (Or.inl rfl) | exact Or.inr rfl | exact Or.inr (Or.inr rfl) | exact Or.inr (Or.inr (Or.inl rfl)) | exact Or.inr (Or.inr (Or.inr rfl))
theorem g282_ (f : Int32) : q1_ ((q282 (sA S) f)).1 := by
  unfold q282 qF
  first | (repeat' split) | skip
  all_goals first | exact Or.inl rfl | exact Or.inr (Or.inl rfl) | exact Or.inr rfl | exact Or.inr (Or.inr rfl) | exact Or.inr (Or.inr (Or.inl rfl)) | exact Or.inr (Or.inr (Or.inr rfl))
theorem g283_ (f : Int32) : q2_ ((q283 (sA S) f)).1 := by
  unfold q283 qF
  split
  · exact Or.inr (Or.inl rfl)
  · dsimp only
    split
    · exact Or.inr (Or.inr rfl)
    · exact Or.inl rfl
theorem g285_ (f : Int32) : q1_ ((q285 (sA S) f)).1 := by
  unfold q285
  first | (repeat' split) | skip
  all_goals first | exact Or.inl rfl | exact Or.inr (Or.inl rfl) | exact Or.inr rfl | exact Or.inr (Or.inr rfl) | exact Or.inr (Or.inr (Or.inl rfl)) | exact Or.inr (Or.inr (Or.inr rfl))
theorem g286_ (f : Int32) (g : Int32) : q1_ ((q286 (sA S) f g)).1 := by
  unfold q286 qF
  first | (repeat' split) | skip
  all_goals first | exact Or.inl rfl | exact Or.inr (Or.inl rfl) | exact Or.inr rfl | exact Or.inr (Or.inr rfl) | exact Or.inr (Or.inr (Or.inl rfl)) | exact Or.inr (Or.inr (Or.inr rfl))
theorem g287_ (f : Int32) (g : Int32) : q1_ ((q287 (sA S) f g)).1 := by
  unfold q287 qF
  first | (repeat' split) | skip
  all_goals first | exact Or.inl rfl | exact Or.inr (Or.inl rfl) | exact Or.inr rfl | exact Or.inr (Or.inr rfl) | exact Or.inr (Or.inr (Or.inl rfl)) | exact Or.inr (Or.inr (Or.inr rfl))
theorem g288_ (f : Int32) (g : Int32) : q1_ ((q288 (sA S) f g)).1 := by
  unfold q288 qF
  first | (repeat' split) | skip
  all_goals first | exact Or.inl rfl | exact Or.inr (Or.inl rfl) | exact Or.inr rfl | exact Or.inr (Or.inr rfl) | exact Or.inr (Or.inr (Or.inl rfl)) | exact Or.inr (Or.inr (Or.inr rfl))
theorem g289_ (f : Int32) : q1_ ((q289 (sA S) f)).1 := by
  unfold q289 qF
  first | (repeat' split) | skip
  all_goals first | exact Or.inl rfl | exact Or.inr (Or.inl rfl) | exact Or.inr rfl | exact Or.inr (Or.inr rfl) | exact Or.inr (Or.inr (Or.inl rfl)) | exact Or.inr (Or.inr (Or.inr rfl))
theorem g290_ (f : Int32) (g : Int32) : q1_ ((q290 (sA S) f g)).1 := by
  unfold q290 qF
  first | (repeat' split) | skip
  all_goals first | exact Or.inl rfl | exact Or.inr (Or.inl rfl) | exact Or.inr rfl | exact Or.inr (Or.inr rfl) | exact Or.inr (Or.inr (Or.inl rfl)) | exact Or.inr (Or.inr (Or.inr rfl))
theorem g293_ (f : Int32) (g : Int32) : q1_ ((q293 (sA S) f g)).1 := by
  unfold q293 qF
  first | (repeat' split) | skip
  all_goals first | exact Or.inl rfl | exact Or.inr (Or.inl rfl) | exact Or.inr rfl | exact Or.inr (Or.inr rfl) | exact Or.inr (Or.inr (Or.inl rfl)) | exact Or.inr (Or.inr (Or.inr rfl))
theorem g295_ (op : Int32) (f : Int32) (g : Int32) : q2_ ((q295 (sA S) op f g)).1 := by
  unfold q295 qF
  first | (repeat' split) | skip
  all_goals first | exact Or.inl rfl | exact Or.inr (Or.inl rfl) | exact Or.inr rfl | exact Or.inr (Or.inr rfl) | exact Or.inr (Or.inr (Or.inl rfl)) | exact Or.inr (Or.inr (Or.inr rfl))
theorem g302_ (v : Int32) (l : Int32) : q1_ ((q302 (sA S) v l)).1 := by
  unfold q302 qV
  first | (repeat' split) | skip
  all_goals first | exact Or.inl rfl | exact Or.inr (Or.inl rfl) | exact Or.inr rfl | exact Or.inr (Or.inr rfl) | exact Or.inr (Or.inr (Or.inl rfl)) | exact Or.inr (Or.inr (Or.inr rfl))
theorem g303_ (v : Int32) : q1_ ((q303 (sA S) v)).1 := by
  unfold q303 qV
  first | (repeat' split) | skip
  all_goals first | exact Or.inl rfl | exact Or.inr (Or.inl rfl) | exact Or.inr rfl | exact Or.inr (Or.inr rfl) | exact Or.inr (Or.inr (Or.inl rfl)) | exact Or.inr (Or.inr (Or.inr rfl))
theorem g304_ (l : Int32) : q1_ ((q304 (sA S) l)).1 := by
  unfold q304 qV
  first | (repeat' split) | skip
  all_goals first | exact Or.inl rfl | exact Or.inr (Or.inl rfl) | exact Or.inr rfl | exact Or.inr (Or.inr rfl) | exact Or.inr (Or.inr (Or.inl rfl)) | exact Or.inr (Or.inr (Or.inr rfl))
theorem g307_ (op : Int32) (f : Int32) (g : Int32) : q3_ (((p307 S op f g)).2).1 := by
  unfold p307 pF pNew3
  first | (repeat' split) | skip
  all_goals first | exact Or.inl rfl | exact Or.inr (Or.inl rfl) | exact Or.inr rfl | exact Or.inr (Or.inr rfl) | exact Or.inr (Or.inr (Or.inl rfl)) | exact Or.inr (Or.inr (Or.inr rfl))
theorem g308_ (f : Int32) (g : Int32) (h : Int32) : q2_ (((p308 S f g h)).2).1 := by
  unfold p308 pF pNew
  first | (repeat' split) | skip
  all_goals first | exact Or.inl rfl | exact Or.inr (Or.inl rfl) | exact Or.inr rfl | exact Or.inr (Or.inr rfl) | exact Or.inr (Or.inr (Or.inl rfl)) | exact Or.inr (Or.inr (Or.inr rfl))
theorem g309_ (f : Int32) : q2_ (((p309 S f)).2).1 := by
  unfold p309 pF pNew
  first | (repeat' split) | skip
  all_goals first | exact Or.inl rfl | exact Or.inr (Or.inl rfl) | exact Or.inr rfl | exact Or.inr (Or.inr rfl) | exact Or.inr (Or.inr (Or.inl rfl)) | exact Or.inr (Or.inr (Or.inr rfl))
theorem g310_ (f : Int32) (v : Int32) (b : Bool) : q2_ (((p310 S f v b)).2).1 := by
  unfold p310 pF pV pNew
  first | (repeat' split) | skip
  all_goals first | exact Or.inl rfl | exact Or.inr (Or.inl rfl) | exact Or.inr rfl | exact Or.inr (Or.inr rfl) | exact Or.inr (Or.inr (Or.inl rfl)) | exact Or.inr (Or.inr (Or.inr rfl))
theorem g311_ (f : Int32) (v : Int32) (b : Bool) : q2_ (((p311 S f v b)).2).1 := by
  unfold p311 pF pV pNew
  first | (repeat' split) | skip
  all_goals first | exact Or.inl rfl | exact Or.inr (Or.inl rfl) | exact Or.inr rfl | exact Or.inr (Or.inr rfl) | exact Or.inr (Or.inr (Or.inl rfl)) | exact Or.inr (Or.inr (Or.inr rfl))
theorem g312_ (f : Int32) (v : Int32) (g : Int32) : q2_ (((p312 S f v g)).2).1 := by
  unfold p312 pF pV pNew
  first | (repeat' split) | skip
  all_goals first | exact Or.inl rfl | exact Or.inr (Or.inl rfl) | exact Or.inr rfl | exact Or.inr (Or.inr rfl) | exact Or.inr (Or.inr (Or.inl rfl)) | exact Or.inr (Or.inr (Or.inr rfl))
theorem g314_ (f : Int32) : q1_ (((p314 S f)).2).1 := by
  unfold p314 pF
  first | (repeat' split) | skip
  all_goals first | exact Or.inl rfl | exact Or.inr (Or.inl rfl) | exact Or.inr rfl | exact Or.inr (Or.inr rfl) | exact Or.inr (Or.inr (Or.inl rfl)) | exact Or.inr (Or.inr (Or.inr rfl))
theorem g315_ (l : Int32) : q1_ (((p315 S l)).2).1 := by
  unfold p315 pCh
  first | (repeat' split) | skip
  all_goals first | exact Or.inl rfl | exact Or.inr (Or.inl rfl) | exact Or.inr rfl | exact Or.inr (Or.inr rfl) | exact Or.inr (Or.inr (Or.inl rfl)) | exact Or.inr (Or.inr (Or.inr rfl))
theorem g316_ (v : Int32) (l : Int32) : q1_ (((p316 S v l)).2).1 := by
  unfold p316 pV pCh
  first | (repeat' split) | skip
  all_goals first | exact Or.inl rfl | exact Or.inr (Or.inl rfl) | exact Or.inr rfl | exact Or.inr (Or.inr rfl) | exact Or.inr (Or.inr (Or.inl rfl)) | exact Or.inr (Or.inr (Or.inr rfl))
theorem g317_ (v : Int32) : q1_ (((p317 S v)).2).1 := by
  unfold p317 pV pCh
  first | (repeat' split) | skip
  all_goals first | exact Or.inl rfl | exact Or.inr (Or.inl rfl) | exact Or.inr rfl | exact Or.inr (Or.inr rfl) | exact Or.inr (Or.inr (Or.inl rfl)) | exact Or.inr (Or.inr (Or.inr rfl))
theorem g319_ (v : Int32) (c : Int32) : q2_ (((p319 S v c)).2).1 := by
  unfold p319 pV
  first | (repeat' split) | skip
  all_goals first | exact Or.inl rfl | exact Or.inr (Or.inl rfl) | exact Or.inr rfl | exact Or.inr (Or.inr rfl) | exact Or.inr (Or.inr (Or.inl rfl)) | exact Or.inr (Or.inr (Or.inr rfl))
theorem g320_ (v : Int32) (c : Int32) : q2_ (((p320 S v c)).2).1 := by
  unfold p320 pV
  first | (repeat' split) | skip
  all_goals first | exact Or.inl rfl | exact Or.inr (Or.inl rfl) | exact Or.inr rfl | exact Or.inr (Or.inr rfl) | exact Or.inr (Or.inr (Or.inl rfl)) | exact Or.inr (Or.inr (Or.inr rfl))
theorem g253_  : q1_ (((p253 S)).2).1 := by
  unfold p253
  split
  · exact Or.inr rfl
  · exact Or.inl rfl
theorem g321_  : q1_ (((p321 S)).2).1 := by
  unfold p321
  first | (repeat' split) | skip
  all_goals first | exact Or.inl rfl | exact Or.inr (Or.inl rfl) | exact Or.inr rfl | exact Or.inr (Or.inr rfl) | exact Or.inr (Or.inr (Or.inl rfl)) | exact Or.inr (Or.inr (Or.inr rfl))
theorem g322_ (s : Int32) : q1_ (((p322 S s)).2).1 := by
  unfold p322
  first | (repeat' split) | skip
  all_goals first | exact Or.inl rfl | exact Or.inr (Or.inl rfl) | exact Or.inr rfl | exact Or.inr (Or.inr rfl) | exact Or.inr (Or.inr (Or.inl rfl)) | exact Or.inr (Or.inr (Or.inr rfl))
theorem g323_ (s : Int32) : q2_ (((p323 S s)).2).1 := by
  unfold p323
  first | (repeat' split) | skip
  all_goals first | exact Or.inl rfl | exact Or.inr (Or.inl rfl) | exact Or.inr rfl | exact Or.inr (Or.inr rfl) | exact Or.inr (Or.inr (Or.inl rfl)) | exact Or.inr (Or.inr (Or.inr rfl))
theorem g327_ (f : Int32) : q1_ (((p327 S f)).2).1 := by
  unfold p327 pF
  first | (repeat' split) | skip
  all_goals first | exact Or.inl rfl | exact Or.inr (Or.inl rfl) | exact Or.inr rfl | exact Or.inr (Or.inr rfl) | exact Or.inr (Or.inr (Or.inl rfl)) | exact Or.inr (Or.inr (Or.inr rfl))
theorem g329_ (i : Int32) : q1_ ((q329 S i)).1 := by
  unfold q329
  first | (repeat' split) | skip
  all_goals first | exact Or.inl rfl | exact Or.inr (Or.inl rfl) | exact Or.inr rfl | exact Or.inr (Or.inr rfl) | exact Or.inr (Or.inr (Or.inl rfl)) | exact Or.inr (Or.inr (Or.inr rfl))
end RM
