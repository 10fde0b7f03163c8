theorem cT.hi {G G' : mg_G} {S : a_S} (h : cT G S) (f : mg_fr (fun b => 148 ≤ b) G G') : cT G' S := by
  obtain ⟨g1, g2, g3, g4, g5, g6, g7, g8⟩ := h
  have e3 := (f 3 (by decide)).2.2.2.2
  exact ⟨g1.fr f (fun a ha => by unfold kQ at ha; omega), g2, g3.fr f (fun a ha => by omega), g4.fr f (fun a ha => by omega), g5.fr f (by decide) (by decide), ⟨(congrFun e3 6).trans g6.1, (congrFun e3 7).trans g6.2⟩, g7.fr f (by decide) (by decide), g8.fr f (by decide) (fun a ha => by unfold kG at ha; omega)⟩
section RM
variable {scr : Nat × (Nat → Int32)} {G : mg_G} {S' : a_S} {a : qR}
end RM
