section
/-! WHAT STANDS AT THE LOOP'S START -/
set_option maxRecDepth 100000 in
theorem lI_e1 : (lI lg_612).1.1 = 223 := by decide +kernel
set_option maxRecDepth 100000 in
theorem lI_e2 : (lI lg_612).1.2.1 = 16207 := by decide +kernel
set_option maxRecDepth 100000 in
theorem lI_e3 : (lI lg_612).1.2.2 = gRw := by decide +kernel
set_option maxRecDepth 100000 in
theorem lI_e4 : (lI lg_612).2 = true := by decide +kernel
theorem lx_eta {x : LX × Bool} {a b : Nat} {c : List RW3} {d : Bool} (h1 : x.1.1 = a) (h2 : x.1.2.1 = b) (h3 : x.1.2.2 = c) (h4 : x.2 = d) : x = ((a, b, c), d) := by
  obtain ⟨⟨x1, x2, x3⟩, x4⟩ := x
  cases h1
  cases h2
  cases h3
  cases h4
  rfl
theorem lI_end : lI lg_612 = ((223, 16207, gRw), true) := lx_eta lI_e1 lI_e2 lI_e3 lI_e4
set_option maxRecDepth 100000 in
theorem gRw_K : (List.range 223).all (fun j => decide ((gRw.getD (222 - j) z3).1 = gKl.getD j (999, 0)) && decide ((gRw.getD (222 - j) z3).2.1 = gRl.getD j [])) = true := by decide +kernel
set_option maxRecDepth 100000 in
theorem gRw_l : gKl.length = 223 ∧ gRl.length = 223 := by decide +kernel
def mZ (xs : Nat → Int32) : am_M := fun i k => if i < 16 then am_roM xs i k else (rwA (223, 16207, gRw) i).2.2.getD k 0
theorem hp_end (nS : Nat) (xs : Nat → Int32) : hO nS xs lg_612 = hp nS (mZ xs) := by
  have e := hO_L nS xs lg_612 (by rw [lI_end])
  rw [e.1, lI_end]
  have row : ∀ j, j < 223 → (gRw.getD (222 - j) z3).1 = gKl.getD j (999, 0) ∧ (gRw.getD (222 - j) z3).2.1 = gRl.getD j [] := fun j hj => by
    have := List.all_eq_true.mp gRw_K j (List.mem_range.mpr hj)
    rw [Bool.and_eq_true, decide_eq_true_eq, decide_eq_true_eq] at this
    exact this
  refine am_H_eq rfl rfl (fun i => ?_) (fun i k => ?_) (fun i k => rfl)
  · show (if i < 16 then am_roK nS i else (rwA (223, 16207, gRw) i).1) = if i < 16 then am_roK nS i else gKl.getD (i - 16) (999, 0)
    by_cases h : i < 16
    · rw [if_pos h, if_pos h]
    · rw [if_neg h, if_neg h]
      unfold rwA
      by_cases h2 : i < 239
      · rw [if_pos (show i < 16 + 223 from h2)]
        exact (row (i - 16) (by omega)).1
      · rw [if_neg (show ¬ i < 16 + 223 from h2), List.getD_eq_getElem?_getD, List.getElem?_eq_none (by rw [gRw_l.1]; omega)]
        rfl
  · show (if i < 16 then am_roR i k else (rwA (223, 16207, gRw) i).2.1.getD k none) = if i < 16 then am_roR i k else (gRl.getD (i - 16) []).getD k none
    by_cases h : i < 16
    · rw [if_pos h, if_pos h]
    · rw [if_neg h, if_neg h]
      unfold rwA
      by_cases h2 : i < 239
      · rw [if_pos (show i < 16 + 223 from h2)]
        show (gRw.getD (223 - 1 - (i - 16)) z3).2.1.getD k none = _
        rw [show 223 - 1 - (i - 16) = 222 - (i - 16) from rfl, (row (i - 16) (by omega)).2]
      · rw [if_neg (show ¬ i < 16 + 223 from h2), List.getD_eq_getElem?_getD (l := gRl), List.getElem?_eq_none (by rw [gRw_l.2]; omega)]
        rfl
set_option maxRecDepth 100000 in
theorem gRw_0 : (List.range 223).all (fun j => decide (j + 16 = 187 ∨ j + 16 = 205 ∨ j + 16 = 213 ∨ j + 16 = 230 ∨ j + 16 = 231) || decide ((gRw.getD (222 - j) z3).2.2 = [])) = true := by decide +kernel
set_option maxRecDepth 100000 in
theorem gRw_r : (gRw.getD (222 - 171) z3).2.2 = [0, 0, -1] ∧ (gRw.getD (222 - 189) z3).2.2 = List.replicate 36 0 ++ [-1] ∧ (List.range 128).all (fun k => decide ((gRw.getD (222 - 197) z3).2.2.getD k 0 = wdT k)) = true ∧ (List.range 10).all (fun k => decide ((gRw.getD (222 - 214) z3).2.2.getD k 0 = tb230 k)) = true ∧ (List.range 28).all (fun k => decide ((gRw.getD (222 - 215) z3).2.2.getD k 0 = tb231 k)) = true := by decide +kernel
theorem mZ_z {xs : Nat → Int32} {i : Nat} (k : Nat) (h : 16 ≤ i) (hn : ¬ (i = 187 ∨ i = 205 ∨ i = 213 ∨ i = 230 ∨ i = 231)) : mZ xs i k = 0 := by
  unfold mZ
  rw [if_neg (by omega)]
  unfold rwA
  by_cases h2 : i < 239
  · rw [if_pos (show i < 16 + 223 from h2)]
    have := List.all_eq_true.mp gRw_0 (i - 16) (List.mem_range.mpr (by omega))
    rw [Bool.or_eq_true, decide_eq_true_eq, decide_eq_true_eq] at this
    rcases this with q | q
    · exact absurd (by omega) hn
    · show (gRw.getD (222 - (i - 16)) z3).2.2.getD k 0 = 0
      rw [q]; rfl
  · rw [if_neg (show ¬ i < 16 + 223 from h2)]; rfl
theorem mZ_187 {xs : Nat → Int32} (k : Nat) : mZ xs 187 k = if k = 2 then -1 else 0 := by
  show (gRw.getD (222 - 171) z3).2.2.getD k 0 = _
  rw [gRw_r.1]
  match k with
  | 0 => rfl
  | 1 => rfl
  | 2 => rfl
  | k + 3 => rw [if_neg (by omega)]; rfl
theorem mZ_205 {xs : Nat → Int32} (k : Nat) : mZ xs 205 k = if k = 36 then -1 else 0 := by
  show (gRw.getD (222 - 189) z3).2.2.getD k 0 = _
  rw [gRw_r.2.1, List.getD_eq_getElem?_getD]
  by_cases h : k < 36
  · rw [if_neg (by omega), List.getElem?_append_left (by rw [List.length_replicate]; exact h), List.getElem?_replicate, if_pos h]; rfl
  · rw [List.getElem?_append_right (by rw [List.length_replicate]; omega), List.length_replicate]
    by_cases e : k = 36
    · subst e; rfl
    · rw [if_neg e, List.getElem?_eq_none (by show 1 ≤ k - 36; omega)]; rfl
theorem mZ_213 {xs : Nat → Int32} (k : Nat) (hk : k < 128) : mZ xs 213 k = wdT k := by
  have := List.all_eq_true.mp gRw_r.2.2.1 k (List.mem_range.mpr hk)
  rw [decide_eq_true_eq] at this
  exact this
theorem mZ_230 {xs : Nat → Int32} (k : Nat) (hk : k < 10) : mZ xs 230 k = tb230 k := by
  have := List.all_eq_true.mp gRw_r.2.2.2.1 k (List.mem_range.mpr hk)
  rw [decide_eq_true_eq] at this
  exact this
theorem mZ_231 {xs : Nat → Int32} (k : Nat) (hk : k < 28) : mZ xs 231 k = tb231 k := by
  have := List.all_eq_true.mp gRw_r.2.2.2.2 k (List.mem_range.mpr hk)
  rw [decide_eq_true_eq] at this
  exact this
end
