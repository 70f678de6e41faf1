/-! the few numbers that they are asked for: class and reference agree -/
def am_both (o1 o2 : Option Int32) : Bool := match o1, o2 with
  | some x, some y => x == y
  | _, _ => false
theorem am_both_s {o1 o2 : Option Int32} (h : am_both o1 o2 = true) : ∃ x, o1 = some x ∧ o2 = some x := by
  unfold am_both at h
  split at h
  · rw [beq_iff_eq] at h
    subst h
    exact ⟨_, rfl, rfl⟩
  · cases h
set_option maxRecDepth 100000 in
theorem fin_fifths : (List.range 25).all (fun k => (List.range 2).all (fun w => am_both (f_86 100 0 (nI k - 12) (nI w) 0 0 0) (f_278 100 0 (nI k - 12) (nI w) 0 0))) = true := by decide +kernel
set_option maxRecDepth 100000 in
theorem fin_parts : (List.range 13).all (fun b => (List.range 13).all (fun a => (List.range 5).all (fun w => !(decide (1 ≤ a) && decide (a < b)) || am_both (f_78 100 0 (nI a) (nI b) (nI w) 0 0 0) (f_270 100 0 (nI a) (nI b) (nI w) 0 0 0)))) = true := by decide +kernel
set_option maxRecDepth 100000 in
theorem fin_least : (List.range 41).all (fun k => am_both (f_80 200 0 (nI (k + 2)) 0 0 0 0 0) (f_274 200 0 (nI (k + 2)) 0 0 0 0 0)) = true := by decide +kernel
set_option maxRecDepth 100000 in
theorem fin_letters : (List.range 1000).all (fun k => am_both (f_83 5 0 (nI k)) (f_277 5 0 (nI k))) = true := by decide +kernel
