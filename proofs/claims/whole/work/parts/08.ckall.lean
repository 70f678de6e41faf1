/-- every row of every code table -/
theorem am_ck_all : ∀ mi, mi < 312 → am_ckm mi 0 (am_ts.getD mi []) = true := by
  intro mi h
  have key : ∀ a n, am_cks a n = true → a ≤ mi → mi < a + n → am_ckm mi 0 (am_ts.getD mi []) = true := by
    intro a n hk h1 h2
    have h3 := List.all_eq_true.mp hk (mi - a) (List.mem_range.mpr (by omega))
    simpa [show a + (mi - a) = mi by omega] using h3
  by_cases h0 : mi < 13
  · exact key _ _ am_ck0 (by omega) (by omega)
  by_cases h1 : mi < 55
  · exact key _ _ am_ck1 (by omega) (by omega)
  by_cases h2 : mi < 92
  · exact key _ _ am_ck2 (by omega) (by omega)
  by_cases h3 : mi < 135
  · exact key _ _ am_ck3 (by omega) (by omega)
  by_cases h4 : mi < 167
  · exact key _ _ am_ck4 (by omega) (by omega)
  by_cases h5 : mi < 185
  · exact key _ _ am_ck5 (by omega) (by omega)
  by_cases h6 : mi < 218
  · exact key _ _ am_ck6 (by omega) (by omega)
  by_cases h7 : mi < 248
  · exact key _ _ am_ck7 (by omega) (by omega)
  by_cases h8 : mi < 279
  · exact key _ _ am_ck8 (by omega) (by omega)
  by_cases h9 : mi < 312
  · exact key _ _ am_ck9 (by omega) (by omega)
  exact absurd h (by omega)
