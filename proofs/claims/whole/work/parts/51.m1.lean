/-! THE REFERENCE'S METHODS: small ones -/
theorem m_isIn {d nS : Nat} {v lo hi : Int32} {M : am_M} {Q : Option Value → am_H → Prop} : am_Wp d 171 0 [.ref 205, .int v, .int lo, .int hi] [] (hp nS M) Q = Q (some (.int (if lo ≤ v ∧ v ≤ hi then 1 else 0))) (hp nS M) := by
  rw [b_171_0]
  by_cases h1 : v < lo
  · rw [if_pos h1, b_171_14, b_171_15 rfl, if_neg (fun z => absurd z.1 (Int32.not_le.mpr h1))]
  · rw [if_neg h1, b_171_5]
    by_cases h2 : hi < v
    · rw [if_pos h2, b_171_14, b_171_15 rfl, if_neg (fun z => absurd z.2 (Int32.not_le.mpr h2))]
    · rw [if_neg h2, b_171_10, b_171_15 rfl, if_pos ⟨Int32.not_lt.mp h1, Int32.not_lt.mp h2⟩]
