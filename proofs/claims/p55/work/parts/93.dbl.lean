def f_ok (m : Int) (x : UInt64) : Prop := ∃ s c q, FP.Core.decode FP.Core.b64 x.toNat = .fin s c q ∧ c < 2 ^ 53 ∧ q ≤ m
theorem f_ok.mono {m n : Int} {x : UInt64} (h : f_ok m x) (hm : m ≤ n) : f_ok n x := by
  obtain ⟨s, c, q, h1, h2, h3⟩ := h
  exact ⟨s, c, q, h1, h2, by omega⟩
