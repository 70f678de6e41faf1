section
/-! A TEXT, ALL KINDS -/
theorem p_text {nS d c : Nat} {Mi M : am_M} {s : St} {x : Int32} (hR : RO Mi) (hC : CI Mi M s) (hM : MI M s) (hG : GI c s) : prS nS (d + 24) c Mi 135 [.ref 16, .int x, .retAddr 0] 183 [.ref 205, .int x, .retAddr 0] M := by
  by_cases c0 : x = 0
  · subst c0; exact p_t0 hR hC hM hG
  by_cases c1 : x = 1
  · subst c1; exact p_t1 hR hC hM hG
  by_cases c2 : x = 2
  · subst c2; exact p_t2 hR hC hM hG
  by_cases c3 : x = 3
  · subst c3; exact p_t3 hR hC hM hG
  refine p_tx (d := d + 13) ?_ hR hC hM hG
  have e : ∀ n : Nat, n < 4 → ¬ x.toInt = (n : Int) → True := fun _ _ _ => trivial
  have f0 : ¬ x.toInt = 0 := fun z => c0 (Int32.toInt_inj.mp (z.trans (by decide)))
  have f1 : ¬ x.toInt = 1 := fun z => c1 (Int32.toInt_inj.mp (z.trans (by decide)))
  have f2 : ¬ x.toInt = 2 := fun z => c2 (Int32.toInt_inj.mp (z.trans (by decide)))
  have f3 : ¬ x.toInt = 3 := fun z => c3 (Int32.toInt_inj.mp (z.trans (by decide)))
  rw [Int32.lt_iff_toInt_lt, Int32.lt_iff_toInt_lt]
  have g0 : (0 : Int32).toInt = 0 := by decide
  have g3 : (3 : Int32).toInt = 3 := by decide
  rw [g0, g3]
  omega
end
