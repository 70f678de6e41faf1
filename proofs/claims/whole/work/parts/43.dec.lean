/-! THE REFERENCE'S METHODS without loops, by program (ct.py) -/
theorem bn1 : ¬ (1 : Int32) = 0 := by decide
theorem bn0 : ¬ ¬ (0 : Int32) = 0 := by decide
theorem rok_ite {c : Prop} [Decidable c] : am_rok .boolean (if c then 1 else 0) = true := by
  by_cases h : c
  · rw [if_pos h]; rfl
  · rw [if_neg h]; rfl
theorem vp_lt {i : Int32} {n : Nat} (h : vp_in i n) : i.toNatClampNeg < n := by
  rcases Nat.lt_or_ge i.toNatClampNeg n with z | z
  · exact z
  · exact absurd (Or.inr z) h
def tb1 (k : Nat) : Int32 := [6, 2, 5, 5, 4, 5, 6, 3, 7, 6].getD k 0
def tb2 (k : Nat) : Int32 := [4, 3, 3, 5, 4, 4, 3, 5, 5, 4, 3, 6, 6, 8, 8, 7, 7, 9, 8, 8].getD k 0
def tb3 (k : Nat) : Int32 := [0, 3, 6, 6, 5, 5, 5, 7, 6, 6].getD k 0
def tb230 (k : Nat) : Int32 := [6, 2, 5, 5, 4, 5, 6, 3, 7, 6].getD k 0
def tb231 (k : Nat) : Int32 := [4, 3, 3, 5, 4, 4, 3, 5, 5, 4, 3, 6, 6, 8, 8, 7, 7, 9, 8, 8, 6, 6, 5, 5, 5, 7, 6, 6].getD k 0
set_option maxRecDepth 20000 in
theorem c_125 {d nS : Nat} {x0 x1 x2 : Int32} {M : am_M} {Q : Option Value → am_H → Prop} : am_Wp d 125 0 [.int x0, .int x1, .int x2] [] (hp nS M) Q = Q (some (.int (if (x0 < x1) ∨ (¬ (x0 ≤ x2)) then 1 else 0))) (hp nS M) := by
  rw [b_125_0]
  by_cases c1 : x0 < x1
  · rw [if_pos c1]
    rw [b_125_10]
    rw [b_125_15 rok1]
    rw [if_pos (Or.inl c1)]
  · rw [if_neg c1]
    rw [b_125_5]
    by_cases c2 : x0 ≤ x2
    · rw [if_pos c2]
      rw [b_125_14]
      rw [b_125_15 rok0]
      rw [if_neg (fun q => q.elim c1 (fun q => q c2))]
    · rw [if_neg c2]
      rw [b_125_10]
      rw [b_125_15 rok1]
      rw [if_pos (Or.inr c2)]
set_option maxRecDepth 20000 in
theorem c_171 {d nS : Nat} {x1 x2 x3 : Int32} {M : am_M} {Q : Option Value → am_H → Prop} : am_Wp d 171 0 [.ref 205, .int x1, .int x2, .int x3] [] (hp nS M) Q = Q (some (.int (if ¬ (x1 < x2) ∧ (¬ (x3 < x1)) then 1 else 0))) (hp nS M) := by
  rw [b_171_0]
  by_cases c1 : x1 < x2
  · rw [if_pos c1]
    rw [b_171_14]
    rw [b_171_15 rok0]
    rw [if_neg (fun q => q.1 c1)]
  · rw [if_neg c1]
    rw [b_171_5]
    by_cases c2 : x3 < x1
    · rw [if_pos c2]
      rw [b_171_14]
      rw [b_171_15 rok0]
      rw [if_neg (fun q => (fun q => q c2) q.2)]
    · rw [if_neg c2]
      rw [b_171_10]
      rw [b_171_15 rok1]
      rw [if_pos ⟨c1, c2⟩]
set_option maxRecDepth 20000 in
theorem c_298 {d nS : Nat} {x0 : Int32} {M : am_M} {Q : Option Value → am_H → Prop} : am_Wp d 298 0 [.int x0] [] (hp nS M) Q = Q (some (.int (if 0 ≤ x0 then x0 else (-x0)))) (hp nS M) := by
  rw [b_298_0]
  by_cases c1 : 0 ≤ x0
  · rw [if_pos c1, if_pos c1]
    rw [b_298_9]
    rw [b_298_10]
  · rw [if_neg c1, if_neg c1]
    rw [b_298_4]
    rw [b_298_10]
def f_269 : Nat → Nat → Int32 → Int32 → Int32 → Int32 → Option Int32
  | 0, _, _, _, _, _ => none
  | n + 1, hd, x1, x2, x3, x4 => if hd = 0 then (f_269 n 1 x1 x2 x1 x2) else
    (if x4 = 0 then (some x3) else (if ¬ x4 = 0 then (f_269 n 1 x1 x2 x4 (x3 - x3 / x4 * x4)) else none))
set_option maxRecDepth 20000 in
theorem f_269_ok {d nS : Nat} {M : am_M} {Q : Option Value → am_H → Prop} (n : Nat) : (∀ {x1 x2 : Int32} {r : Int32}, f_269 n 0 x1 x2 0 0 = some r → am_Wp d 269 0 [.ref 205, .int x1, .int x2, .retAddr 0, .retAddr 0, .retAddr 0] [] (hp nS M) Q = Q (some (.int r)) (hp nS M)) ∧ (∀ {x1 x2 x3 x4 : Int32} {zx5 : Value} {r : Int32}, f_269 n 1 x1 x2 x3 x4 = some r → am_Wp d 269 5 [.ref 205, .int x1, .int x2, .int x3, .int x4, zx5] [] (hp nS M) Q = Q (some (.int r)) (hp nS M)) := by
  induction n with
  | zero => exact ⟨fun h => (by cases h), fun h => (by cases h)⟩
  | succ n ih =>
    refine ⟨?_, ?_⟩
    · intro x1 x2 r h
      rw [f_269] at h
      rw [if_pos rfl] at h
      rw [b_269_0]
      exact ih.2 h
    · intro x1 x2 x3 x4 zx5 r h
      rw [f_269] at h
      rw [if_neg (by decide)] at h
      rw [b_269_5]
      by_cases c1 : x4 = 0
      · rw [if_pos c1] at h
        rw [if_pos c1]
        rw [b_269_26]
        cases h
        rfl
      · rw [if_neg c1] at h
        rw [if_neg c1]
        by_cases g2 : ¬ x4 = 0
        rotate_left
        · rw [if_neg g2] at h
          cases h
        rw [if_pos g2] at h
        rw [b_269_10 g2]
        exact ih.2 h
def f_78 : Nat → Nat → Int32 → Int32 → Int32 → Int64 → Int64 → Int32 → Option Int32
  | 0, _, _, _, _, _, _, _ => none
  | n + 1, hd, x0, x1, x2, x3, x5, x7 => if hd = 0 then (f_78 n 1 x0 x1 x2 x0.toInt64 x1.toInt64 0) else
    (if (lg_cmp x3 0) ≤ 0 then (if ¬ x2 = 0 then (some (-1)) else (some x7)) else (if (lg_cmp x5 0) ≤ 0 then (if ¬ x2 = 0 then (some (-1)) else (some x7)) else (if 64 ≤ x7 then (if ¬ x2 = 0 then (some (-1)) else (some x7)) else (if ¬ x3 = 0 then (if ¬ (x7 + 1) = x2 then (f_78 n 1 x0 x1 x2 ((x3 * (((x5 + x3) - 1) / x3)) - x5) (x5 * (((x5 + x3) - 1) / x3)) (x7 + 1)) else (some ((((x5 + x3) - 1) / x3).toInt32))) else none))))
set_option maxRecDepth 20000 in
theorem f_78_ok {d nS : Nat} {M : am_M} {Q : Option Value → am_H → Prop} (n : Nat) : (∀ {x0 x1 x2 : Int32} {r : Int32}, f_78 n 0 x0 x1 x2 0 0 0 = some r → am_Wp d 78 0 [.int x0, .int x1, .int x2, .retAddr 0, .retAddr 0, .retAddr 0, .retAddr 0, .retAddr 0, .retAddr 0, .retAddr 0] [] (hp nS M) Q = Q (some (.int r)) (hp nS M)) ∧ (∀ {x0 x1 x2 x7 : Int32} {x3 x5 : Int64} {zx8 : Value} {r : Int32}, f_78 n 1 x0 x1 x2 x3 x5 x7 = some r → am_Wp d 78 10 [.int x0, .int x1, .int x2, .long x3, .retAddr 0, .long x5, .retAddr 0, .int x7, zx8, .retAddr 0] [] (hp nS M) Q = Q (some (.int r)) (hp nS M)) := by
  induction n with
  | zero => exact ⟨fun h => (by cases h), fun h => (by cases h)⟩
  | succ n ih =>
    refine ⟨?_, ?_⟩
    · intro x0 x1 x2 r h
      rw [f_78] at h
      rw [if_pos rfl] at h
      rw [b_78_0]
      exact ih.2 h
    · intro x0 x1 x2 x7 x3 x5 zx8 r h
      rw [f_78] at h
      rw [if_neg (by decide)] at h
      rw [b_78_10]
      by_cases c1 : (lg_cmp x3 0) ≤ 0
      · rw [if_pos c1] at h
        rw [if_pos c1]
        rw [b_78_71]
        by_cases c2 : ¬ x2 = 0
        · rw [if_pos c2] at h
          rw [if_pos c2]
          rw [b_78_80]
          rw [b_78_81]
          cases h
          rfl
        · rw [if_neg c2] at h
          rw [if_neg c2]
          rw [b_78_75]
          rw [b_78_81]
          cases h
          rfl
      · rw [if_neg c1] at h
        rw [if_neg c1]
        rw [b_78_16]
        by_cases c3 : (lg_cmp x5 0) ≤ 0
        · rw [if_pos c3] at h
          rw [if_pos c3]
          rw [b_78_71]
          by_cases c4 : ¬ x2 = 0
          · rw [if_pos c4] at h
            rw [if_pos c4]
            rw [b_78_80]
            rw [b_78_81]
            cases h
            rfl
          · rw [if_neg c4] at h
            rw [if_neg c4]
            rw [b_78_75]
            rw [b_78_81]
            cases h
            rfl
        · rw [if_neg c3] at h
          rw [if_neg c3]
          rw [b_78_23]
          by_cases c5 : 64 ≤ x7
          · rw [if_pos c5] at h
            rw [if_pos c5]
            rw [b_78_71]
            by_cases c6 : ¬ x2 = 0
            · rw [if_pos c6] at h
              rw [if_pos c6]
              rw [b_78_80]
              rw [b_78_81]
              cases h
              rfl
            · rw [if_neg c6] at h
              rw [if_neg c6]
              rw [b_78_75]
              rw [b_78_81]
              cases h
              rfl
          · rw [if_neg c5] at h
            rw [if_neg c5]
            by_cases g7 : ¬ x3 = 0
            rotate_left
            · rw [if_neg g7] at h
              cases h
            rw [if_pos g7] at h
            rw [b_78_30 g7]
            by_cases c8 : ¬ (x7 + 1) = x2
            · rw [if_pos c8] at h
              rw [if_pos c8]
              rw [b_78_53]
              exact ih.2 h
            · rw [if_neg c8] at h
              rw [if_neg c8]
              rw [b_78_49]
              cases h
              rfl
def f_270 : Nat → Nat → Int32 → Int32 → Int32 → Int32 → Int32 → Int32 → Option Int32
  | 0, _, _, _, _, _, _, _ => none
  | n + 1, hd, x1, x2, x3, x4, x5, x6 => if hd = 0 then (f_270 n 1 x1 x2 x3 x1 x2 0) else
    (if x4 ≤ 0 then (if ¬ x3 = 0 then (some (-1)) else (some x6)) else (if ¬ x4 = 0 then (if ¬ x3 = (x6 + 1) then (match f_269 n 0 (x5 * (((x5 + x4) - 1) / x4)) ((x4 * (((x5 + x4) - 1) / x4)) - x5) 0 0 with | some r5 => (if ¬ r5 = 0 then (if ¬ r5 = 0 then (f_270 n 1 x1 x2 x3 (((x4 * (((x5 + x4) - 1) / x4)) - x5) / r5) ((x5 * (((x5 + x4) - 1) / x4)) / r5) (x6 + 1)) else none) else none) | none => none) else (some (((x5 + x4) - 1) / x4))) else none))
set_option maxRecDepth 20000 in
theorem f_270_ok {d nS : Nat} {M : am_M} {Q : Option Value → am_H → Prop} (n : Nat) : (∀ {x1 x2 x3 : Int32} {r : Int32}, f_270 n 0 x1 x2 x3 0 0 0 = some r → am_Wp (d + 1) 270 40 [.ref 205, .int x1, .int x2, .int x3, .retAddr 0, .retAddr 0, .retAddr 0, .retAddr 0, .retAddr 0, .retAddr 0] [] (hp nS M) Q = Q (some (.int r)) (hp nS M)) ∧ (∀ {x1 x2 x3 x4 x5 x6 : Int32} {zx7 zx8 zx9 : Value} {r : Int32}, f_270 n 1 x1 x2 x3 x4 x5 x6 = some r → am_Wp (d + 1) 270 49 [.ref 205, .int x1, .int x2, .int x3, .int x4, .int x5, .int x6, zx7, zx8, zx9] [] (hp nS M) Q = Q (some (.int r)) (hp nS M)) := by
  induction n with
  | zero => exact ⟨fun h => (by cases h), fun h => (by cases h)⟩
  | succ n ih =>
    refine ⟨?_, ?_⟩
    · intro x1 x2 x3 r h
      rw [f_270] at h
      rw [if_pos rfl] at h
      rw [b_270_40]
      exact ih.2 h
    · intro x1 x2 x3 x4 x5 x6 zx7 zx8 zx9 r h
      rw [f_270] at h
      rw [if_neg (by decide)] at h
      rw [b_270_49]
      by_cases c1 : x4 ≤ 0
      · rw [if_pos c1] at h
        rw [if_pos c1]
        rw [b_270_126]
        by_cases c2 : ¬ x3 = 0
        · rw [if_pos c2] at h
          rw [if_pos c2]
          rw [b_270_135]
          rw [b_270_136]
          cases h
          rfl
        · rw [if_neg c2] at h
          rw [if_neg c2]
          rw [b_270_130]
          rw [b_270_136]
          cases h
          rfl
      · rw [if_neg c1] at h
        rw [if_neg c1]
        by_cases g3 : ¬ x4 = 0
        rotate_left
        · rw [if_neg g3] at h
          cases h
        rw [if_pos g3] at h
        rw [b_270_54 g3]
        by_cases c4 : ¬ x3 = (x6 + 1)
        · rw [if_pos c4] at h
          rw [if_pos c4]
          rw [b_270_77]
          cases h6 : f_269 n 0 (x5 * (((x5 + x4) - 1) / x4)) ((x4 * (((x5 + x4) - 1) / x4)) - x5) 0 0 with
          | none => rw [h6] at h; cases h
          | some r5 =>
            rw [h6] at h
            replace h : (if ¬ r5 = 0 then (if ¬ r5 = 0 then (f_270 n 1 x1 x2 x3 (((x4 * (((x5 + x4) - 1) / x4)) - x5) / r5) ((x5 * (((x5 + x4) - 1) / x4)) / r5) (x6 + 1)) else none) else none) = some r := h
            rw [(f_269_ok n).1 h6]
            simp only [am_ans_some]
            by_cases g7 : ¬ r5 = 0
            rotate_left
            · rw [if_neg g7] at h
              cases h
            rw [if_pos g7] at h
            by_cases g8 : ¬ r5 = 0
            rotate_left
            · rw [if_neg g8] at h
              cases h
            rw [if_pos g8] at h
            rw [b_270_104 g7 g8]
            exact ih.2 h
        · rw [if_neg c4] at h
          rw [if_neg c4]
          rw [b_270_74]
          cases h
          rfl
def f_80 : Nat → Nat → Int32 → Int32 → Int32 → Int32 → Int32 → Int32 → Option Int32
  | 0, _, _, _, _, _, _, _ => none
  | n + 1, hd, x0, x1, x2, x3, x4, x5 => if hd = 0 then (f_80 n 2 x0 ((x0 + 6) / 7) x0 0 (((x0 + 6) / 7) - 1) 0) else
    if hd = 1 then (if 9 ≤ x5 then (if ¬ (x5 < 0 ∨ 10 ≤ x5.toNatClampNeg) then (f_80 n 2 x0 x1 (x2 - (tb1 x5.toNatClampNeg)) ((x3 * 10) + x5) (x4 + (-1)) 0) else none) else (if ¬ (x5 < 0 ∨ 10 ≤ x5.toNatClampNeg) then (if ((x2 - (tb1 x5.toNatClampNeg)) < (x4 * 2)) ∨ (¬ ((x2 - (tb1 x5.toNatClampNeg)) ≤ (x4 * 7))) then (f_80 n 1 x0 x1 x2 x3 x4 (x5 + 1)) else (if ¬ (x5 < 0 ∨ 10 ≤ x5.toNatClampNeg) then (f_80 n 2 x0 x1 (x2 - (tb1 x5.toNatClampNeg)) ((x3 * 10) + x5) (x4 + (-1)) 0) else none)) else none)) else
    (if x4 < 0 then (some x3) else (if ¬ x4 = (x1 - 1) then (f_80 n 1 x0 x1 x2 x3 x4 0) else (if x1 ≤ 1 then (f_80 n 1 x0 x1 x2 x3 x4 0) else (f_80 n 1 x0 x1 x2 x3 x4 1))))
set_option maxRecDepth 20000 in
theorem f_80_ok {d nS : Nat} {M : am_M} {Q : Option Value → am_H → Prop} (hT1 : ∀ {k : Nat}, k < 10 → M 1 k = tb1 k) (n : Nat) : (∀ {x0 : Int32} {r : Int32}, f_80 n 0 x0 0 0 0 0 0 = some r → am_Wp (d + 1) 80 0 [.int x0, .retAddr 0, .retAddr 0, .retAddr 0, .retAddr 0, .retAddr 0] [] (hp nS M) Q = Q (some (.int r)) (hp nS M)) ∧ (∀ {x0 x1 x2 x3 x4 x5 : Int32} {r : Int32}, f_80 n 1 x0 x1 x2 x3 x4 x5 = some r → am_Wp (d + 1) 80 42 [.int x0, .int x1, .int x2, .int x3, .int x4, .int x5] [] (hp nS M) Q = Q (some (.int r)) (hp nS M)) ∧ (∀ {x0 x1 x2 x3 x4 : Int32} {zx5 : Value} {r : Int32}, f_80 n 2 x0 x1 x2 x3 x4 0 = some r → am_Wp (d + 1) 80 17 [.int x0, .int x1, .int x2, .int x3, .int x4, zx5] [] (hp nS M) Q = Q (some (.int r)) (hp nS M)) := by
  induction n with
  | zero => exact ⟨fun h => (by cases h), fun h => (by cases h), fun h => (by cases h)⟩
  | succ n ih =>
    refine ⟨?_, ?_, ?_⟩
    · intro x0 r h
      rw [f_80] at h
      rw [if_pos rfl] at h
      rw [b_80_0]
      exact ih.2.2 h
    · intro x0 x1 x2 x3 x4 x5 r h
      rw [f_80] at h
      rw [if_neg (by decide), if_pos rfl] at h
      rw [b_80_42]
      by_cases c1 : 9 ≤ x5
      · rw [if_pos c1] at h
        rw [if_pos c1]
        by_cases g2 : ¬ (x5 < 0 ∨ 10 ≤ x5.toNatClampNeg)
        rotate_left
        · rw [if_neg g2] at h
          cases h
        rw [if_pos g2] at h
        rw [b_80_78 g2]
        try rw [hT1 (vp_lt (show vp_in x5 10 from g2))]
        exact ih.2.2 h
      · rw [if_neg c1] at h
        rw [if_neg c1]
        by_cases g3 : ¬ (x5 < 0 ∨ 10 ≤ x5.toNatClampNeg)
        rotate_left
        · rw [if_neg g3] at h
          cases h
        rw [if_pos g3] at h
        rw [b_80_49 g3]
        try rw [hT1 (vp_lt (show vp_in x5 10 from g3))]
        rw [c_125]
        simp only [am_ans_some]
        rw [b_80_69]
        by_cases c4 : ((x2 - (tb1 x5.toNatClampNeg)) < (x4 * 2)) ∨ (¬ ((x2 - (tb1 x5.toNatClampNeg)) ≤ (x4 * 7)))
        · rw [if_pos c4] at h
          rw [if_pos c4, if_neg bn1]
          rw [b_80_72]
          exact ih.2.1 h
        · rw [if_neg c4] at h
          rw [if_neg c4, if_pos rfl]
          by_cases g5 : ¬ (x5 < 0 ∨ 10 ≤ x5.toNatClampNeg)
          rotate_left
          · rw [if_neg g5] at h
            cases h
          rw [if_pos g5] at h
          rw [b_80_78 g5]
          try rw [hT1 (vp_lt (show vp_in x5 10 from g5))]
          exact ih.2.2 h
    · intro x0 x1 x2 x3 x4 zx5 r h
      rw [f_80] at h
      rw [if_neg (by decide), if_neg (by decide)] at h
      rw [b_80_17]
      by_cases c6 : x4 < 0
      · rw [if_pos c6] at h
        rw [if_pos c6]
        rw [b_80_101]
        cases h
        rfl
      · rw [if_neg c6] at h
        rw [if_neg c6]
        rw [b_80_22]
        by_cases c7 : ¬ x4 = (x1 - 1)
        · rw [if_pos c7] at h
          rw [if_pos c7]
          rw [b_80_39]
          rw [b_80_40]
          exact ih.2.1 h
        · rw [if_neg c7] at h
          rw [if_neg c7]
          rw [b_80_30]
          by_cases c8 : x1 ≤ 1
          · rw [if_pos c8] at h
            rw [if_pos c8]
            rw [b_80_39]
            rw [b_80_40]
            exact ih.2.1 h
          · rw [if_neg c8] at h
            rw [if_neg c8]
            rw [b_80_35]
            rw [b_80_40]
            exact ih.2.1 h
def f_274 : Nat → Nat → Int32 → Int32 → Int32 → Int32 → Int32 → Int32 → Option Int32
  | 0, _, _, _, _, _, _, _ => none
  | n + 1, hd, x1, x2, x3, x4, x5, x6 => if hd = 0 then (f_274 n 2 x1 ((x1 + 6) / 7) x1 0 (((x1 + 6) / 7) - 1) 0) else
    if hd = 1 then (if ¬ (x6 < 0 ∨ 10 ≤ x6.toNatClampNeg) then (if ¬ ((x3 - (tb230 x6.toNatClampNeg)) < (2 * x5)) ∧ (¬ ((7 * x5) < (x3 - (tb230 x6.toNatClampNeg)))) then (if ¬ (x6 < 0 ∨ 10 ≤ x6.toNatClampNeg) then (f_274 n 2 x1 x2 (x3 - (tb230 x6.toNatClampNeg)) ((10 * x4) + x6) (x5 + (-1)) 0) else none) else (f_274 n 1 x1 x2 x3 x4 x5 (x6 + 1))) else none) else
    (if x5 < 0 then (some x4) else (if ¬ x5 = (x2 - 1) then (f_274 n 1 x1 x2 x3 x4 x5 0) else (if x2 ≤ 1 then (f_274 n 1 x1 x2 x3 x4 x5 0) else (f_274 n 1 x1 x2 x3 x4 x5 1))))
set_option maxRecDepth 20000 in
theorem f_274_ok {d nS : Nat} {M : am_M} {Q : Option Value → am_H → Prop} (hT230 : ∀ {k : Nat}, k < 10 → M 230 k = tb230 k) (n : Nat) : (∀ {x1 : Int32} {r : Int32}, f_274 n 0 x1 0 0 0 0 0 = some r → am_Wp (d + 1) 274 0 [.ref 205, .int x1, .retAddr 0, .retAddr 0, .retAddr 0, .retAddr 0, .retAddr 0] [] (hp nS M) Q = Q (some (.int r)) (hp nS M)) ∧ (∀ {x1 x2 x3 x4 x5 x6 : Int32} {r : Int32}, f_274 n 1 x1 x2 x3 x4 x5 x6 = some r → am_Wp (d + 1) 274 43 [.ref 205, .int x1, .int x2, .int x3, .int x4, .int x5, .int x6] [] (hp nS M) Q = Q (some (.int r)) (hp nS M)) ∧ (∀ {x1 x2 x3 x4 x5 : Int32} {zx6 : Value} {r : Int32}, f_274 n 2 x1 x2 x3 x4 x5 0 = some r → am_Wp (d + 1) 274 18 [.ref 205, .int x1, .int x2, .int x3, .int x4, .int x5, zx6] [] (hp nS M) Q = Q (some (.int r)) (hp nS M)) := by
  induction n with
  | zero => exact ⟨fun h => (by cases h), fun h => (by cases h), fun h => (by cases h)⟩
  | succ n ih =>
    refine ⟨?_, ?_, ?_⟩
    · intro x1 r h
      rw [f_274] at h
      rw [if_pos rfl] at h
      rw [b_274_0]
      exact ih.2.2 h
    · intro x1 x2 x3 x4 x5 x6 r h
      rw [f_274] at h
      rw [if_neg (by decide), if_pos rfl] at h
      by_cases g1 : ¬ (x6 < 0 ∨ 10 ≤ x6.toNatClampNeg)
      rotate_left
      · rw [if_neg g1] at h
        cases h
      rw [if_pos g1] at h
      rw [b_274_43 g1]
      try rw [hT230 (vp_lt (show vp_in x6 10 from g1))]
      rw [c_171]
      simp only [am_ans_some]
      rw [b_274_65]
      by_cases c2 : ¬ ((x3 - (tb230 x6.toNatClampNeg)) < (2 * x5)) ∧ (¬ ((7 * x5) < (x3 - (tb230 x6.toNatClampNeg))))
      · rw [if_pos c2] at h
        rw [if_pos c2, if_pos bn1]
        by_cases g3 : ¬ (x6 < 0 ∨ 10 ≤ x6.toNatClampNeg)
        rotate_left
        · rw [if_neg g3] at h
          cases h
        rw [if_pos g3] at h
        rw [b_274_77 g3]
        try rw [hT230 (vp_lt (show vp_in x6 10 from g3))]
        exact ih.2.2 h
      · rw [if_neg c2] at h
        rw [if_neg c2, if_neg bn0]
        rw [b_274_68]
        exact ih.2.1 h
    · intro x1 x2 x3 x4 x5 zx6 r h
      rw [f_274] at h
      rw [if_neg (by decide), if_neg (by decide)] at h
      rw [b_274_18]
      by_cases c4 : x5 < 0
      · rw [if_pos c4] at h
        rw [if_pos c4]
        rw [b_274_103]
        cases h
        rfl
      · rw [if_neg c4] at h
        rw [if_neg c4]
        rw [b_274_23]
        by_cases c5 : ¬ x5 = (x2 - 1)
        · rw [if_pos c5] at h
          rw [if_pos c5]
          rw [b_274_40]
          rw [b_274_41]
          exact ih.2.1 h
        · rw [if_neg c5] at h
          rw [if_neg c5]
          rw [b_274_31]
          by_cases c6 : x2 ≤ 1
          · rw [if_pos c6] at h
            rw [if_pos c6]
            rw [b_274_40]
            rw [b_274_41]
            exact ih.2.1 h
          · rw [if_neg c6] at h
            rw [if_neg c6]
            rw [b_274_36]
            rw [b_274_41]
            exact ih.2.1 h
def f_86 : Nat → Nat → Int32 → Int32 → Int32 → Int32 → Int32 → Option Int32
  | 0, _, _, _, _, _, _ => none
  | n + 1, hd, x0, x1, x2, x3, x4 => if hd = 0 then (f_86 n 1 x0 x1 1 0 0) else
    if hd = 1 then (if (if 0 ≤ x0 then x0 else (-x0)) ≤ x3 then (f_86 n 2 x0 x1 x2 1 0) else (f_86 n 1 x0 x1 (x2 * 3) (x3 + 1) 0)) else
    (if 30 ≤ x4 then (if 0 ≤ x0 then (if ¬ x1 = 0 then (some x3) else (some x2)) else (if ¬ x1 = 0 then (some x2) else (some (x3 * 2)))) else (if x2 < (x3 * 2) then (if 0 ≤ x0 then (if ¬ x1 = 0 then (some x3) else (some x2)) else (if ¬ x1 = 0 then (some x2) else (some (x3 * 2)))) else (f_86 n 2 x0 x1 x2 (x3 * 2) (x4 + 1))))
set_option maxRecDepth 20000 in
theorem f_86_ok {d nS : Nat} {M : am_M} {Q : Option Value → am_H → Prop} (n : Nat) : (∀ {x0 x1 : Int32} {r : Int32}, f_86 n 0 x0 x1 0 0 0 = some r → am_Wp (d + 1) 86 0 [.int x0, .int x1, .retAddr 0, .retAddr 0, .retAddr 0] [] (hp nS M) Q = Q (some (.int r)) (hp nS M)) ∧ (∀ {x0 x1 x2 x3 : Int32} {r : Int32}, f_86 n 1 x0 x1 x2 x3 0 = some r → am_Wp (d + 1) 86 4 [.int x0, .int x1, .int x2, .int x3, .retAddr 0] [] (hp nS M) Q = Q (some (.int r)) (hp nS M)) ∧ (∀ {x0 x1 x2 x3 x4 : Int32} {r : Int32}, f_86 n 2 x0 x1 x2 x3 x4 = some r → am_Wp (d + 1) 86 27 [.int x0, .int x1, .int x2, .int x3, .int x4] [] (hp nS M) Q = Q (some (.int r)) (hp nS M)) := by
  induction n with
  | zero => exact ⟨fun h => (by cases h), fun h => (by cases h), fun h => (by cases h)⟩
  | succ n ih =>
    refine ⟨?_, ?_, ?_⟩
    · intro x0 x1 r h
      rw [f_86] at h
      rw [if_pos rfl] at h
      rw [b_86_0]
      exact ih.2.1 h
    · intro x0 x1 x2 x3 r h
      rw [f_86] at h
      rw [if_neg (by decide), if_pos rfl] at h
      rw [b_86_4]
      rw [c_298]
      simp only [am_ans_some]
      rw [b_86_9]
      by_cases c1 : (if 0 ≤ x0 then x0 else (-x0)) ≤ x3
      · rw [if_pos c1] at h
        rw [if_pos c1]
        rw [b_86_22]
        exact ih.2.2 h
      · rw [if_neg c1] at h
        rw [if_neg c1]
        rw [b_86_12]
        exact ih.2.1 h
    · intro x0 x1 x2 x3 x4 r h
      rw [f_86] at h
      rw [if_neg (by decide), if_neg (by decide)] at h
      rw [b_86_27]
      by_cases c2 : 30 ≤ x4
      · rw [if_pos c2] at h
        rw [if_pos c2]
        rw [b_86_51]
        by_cases c3 : 0 ≤ x0
        · rw [if_pos c3] at h
          rw [if_pos c3]
          rw [b_86_67]
          by_cases c4 : ¬ x1 = 0
          · rw [if_pos c4] at h
            rw [if_pos c4]
            rw [b_86_75]
            rw [b_86_76]
            cases h
            rfl
          · rw [if_neg c4] at h
            rw [if_neg c4]
            rw [b_86_71]
            rw [b_86_76]
            cases h
            rfl
        · rw [if_neg c3] at h
          rw [if_neg c3]
          rw [b_86_55]
          by_cases c5 : ¬ x1 = 0
          · rw [if_pos c5] at h
            rw [if_pos c5]
            rw [b_86_65]
            rw [b_86_66]
            cases h
            rfl
          · rw [if_neg c5] at h
            rw [if_neg c5]
            rw [b_86_59]
            rw [b_86_66]
            cases h
            rfl
      · rw [if_neg c2] at h
        rw [if_neg c2]
        rw [b_86_34]
        by_cases c6 : x2 < (x3 * 2)
        · rw [if_pos c6] at h
          rw [if_pos c6]
          rw [b_86_51]
          by_cases c7 : 0 ≤ x0
          · rw [if_pos c7] at h
            rw [if_pos c7]
            rw [b_86_67]
            by_cases c8 : ¬ x1 = 0
            · rw [if_pos c8] at h
              rw [if_pos c8]
              rw [b_86_75]
              rw [b_86_76]
              cases h
              rfl
            · rw [if_neg c8] at h
              rw [if_neg c8]
              rw [b_86_71]
              rw [b_86_76]
              cases h
              rfl
          · rw [if_neg c7] at h
            rw [if_neg c7]
            rw [b_86_55]
            by_cases c9 : ¬ x1 = 0
            · rw [if_pos c9] at h
              rw [if_pos c9]
              rw [b_86_65]
              rw [b_86_66]
              cases h
              rfl
            · rw [if_neg c9] at h
              rw [if_neg c9]
              rw [b_86_59]
              rw [b_86_66]
              cases h
              rfl
        · rw [if_neg c6] at h
          rw [if_neg c6]
          rw [b_86_41]
          exact ih.2.2 h
def f_278 : Nat → Nat → Int32 → Int32 → Int32 → Int32 → Option Int32
  | 0, _, _, _, _, _ => none
  | n + 1, hd, x1, x2, x3, x4 => if hd = 0 then (f_278 n 1 x1 x2 1 0) else
    if hd = 1 then (if 0 ≤ x1 then (if x1 ≤ x4 then (f_278 n 2 x1 x2 x3 1) else (f_278 n 1 x1 x2 (x3 * 3) (x4 + 1))) else (if (-x1) ≤ x4 then (f_278 n 2 x1 x2 x3 1) else (f_278 n 1 x1 x2 (x3 * 3) (x4 + 1)))) else
    (if 0 ≤ x1 then (if x3 < (2 * x4) then (if 0 ≤ x1 then (if ¬ x2 = 0 then (if ¬ (0 : Int32) = (0 : Int32) then (some x3) else (some x4)) else (if ¬ (0 : Int32) = (1 : Int32) then (some x3) else (some x4))) else (if ¬ x2 = 0 then (if ¬ (1 : Int32) = (0 : Int32) then (some x3) else (some x4)) else (if ¬ (1 : Int32) = (1 : Int32) then (some x3) else (some x4)))) else (f_278 n 2 x1 x2 x3 (2 * x4))) else (if x3 ≤ x4 then (if 0 ≤ x1 then (if ¬ x2 = 0 then (if ¬ (0 : Int32) = (0 : Int32) then (some x3) else (some x4)) else (if ¬ (0 : Int32) = (1 : Int32) then (some x3) else (some x4))) else (if ¬ x2 = 0 then (if ¬ (1 : Int32) = (0 : Int32) then (some x3) else (some x4)) else (if ¬ (1 : Int32) = (1 : Int32) then (some x3) else (some x4)))) else (f_278 n 2 x1 x2 x3 (2 * x4))))
set_option maxRecDepth 20000 in
theorem f_278_ok {d nS : Nat} {M : am_M} {Q : Option Value → am_H → Prop} (n : Nat) : (∀ {x1 x2 : Int32} {r : Int32}, f_278 n 0 x1 x2 0 0 = some r → am_Wp d 278 29 [.ref 205, .int x1, .int x2, .retAddr 0, .retAddr 0] [] (hp nS M) Q = Q (some (.int r)) (hp nS M)) ∧ (∀ {x1 x2 x3 x4 : Int32} {r : Int32}, f_278 n 1 x1 x2 x3 x4 = some r → am_Wp d 278 34 [.ref 205, .int x1, .int x2, .int x3, .int x4] [] (hp nS M) Q = Q (some (.int r)) (hp nS M)) ∧ (∀ {x1 x2 x3 x4 : Int32} {r : Int32}, f_278 n 2 x1 x2 x3 x4 = some r → am_Wp d 278 62 [.ref 205, .int x1, .int x2, .int x3, .int x4] [] (hp nS M) Q = Q (some (.int r)) (hp nS M)) := by
  induction n with
  | zero => exact ⟨fun h => (by cases h), fun h => (by cases h), fun h => (by cases h)⟩
  | succ n ih =>
    refine ⟨?_, ?_, ?_⟩
    · intro x1 x2 r h
      rw [f_278] at h
      rw [if_pos rfl] at h
      rw [b_278_29]
      exact ih.2.1 h
    · intro x1 x2 x3 x4 r h
      rw [f_278] at h
      rw [if_neg (by decide), if_pos rfl] at h
      rw [b_278_34]
      by_cases c1 : 0 ≤ x1
      · rw [if_pos c1] at h
        rw [if_pos c1]
        rw [b_278_45]
        rw [b_278_46]
        by_cases c2 : x1 ≤ x4
        · rw [if_pos c2] at h
          rw [if_pos c2]
          rw [b_278_59]
          exact ih.2.2 h
        · rw [if_neg c2] at h
          rw [if_neg c2]
          rw [b_278_49]
          exact ih.2.1 h
      · rw [if_neg c1] at h
        rw [if_neg c1]
        rw [b_278_40]
        rw [b_278_46]
        by_cases c3 : (-x1) ≤ x4
        · rw [if_pos c3] at h
          rw [if_pos c3]
          rw [b_278_59]
          exact ih.2.2 h
        · rw [if_neg c3] at h
          rw [if_neg c3]
          rw [b_278_49]
          exact ih.2.1 h
    · intro x1 x2 x3 x4 r h
      rw [f_278] at h
      rw [if_neg (by decide), if_neg (by decide)] at h
      rw [b_278_62]
      by_cases c4 : 0 ≤ x1
      · rw [if_pos c4] at h
        rw [if_pos c4]
        rw [b_278_75]
        by_cases c5 : x3 < (2 * x4)
        · rw [if_pos c5] at h
          rw [if_pos c5]
          rw [b_278_92]
          by_cases c6 : 0 ≤ x1
          · rw [if_pos c6] at h
            rw [if_pos c6]
            rw [b_278_100]
            rw [b_278_101]
            by_cases c7 : ¬ x2 = 0
            · rw [if_pos c7] at h
              rw [if_pos c7]
              rw [b_278_109]
              rw [b_278_110]
              by_cases c8 : ¬ (0 : Int32) = (0 : Int32)
              · rw [if_pos c8] at h
                rw [if_pos c8]
                rw [b_278_118]
                rw [b_278_119]
                cases h
                rfl
              · rw [if_neg c8] at h
                rw [if_neg c8]
                rw [b_278_113]
                rw [b_278_119]
                cases h
                rfl
            · rw [if_neg c7] at h
              rw [if_neg c7]
              rw [b_278_105]
              rw [b_278_110]
              by_cases c9 : ¬ (0 : Int32) = (1 : Int32)
              · rw [if_pos c9] at h
                rw [if_pos c9]
                rw [b_278_118]
                rw [b_278_119]
                cases h
                rfl
              · rw [if_neg c9] at h
                rw [if_neg c9]
                rw [b_278_113]
                rw [b_278_119]
                cases h
                rfl
          · rw [if_neg c6] at h
            rw [if_neg c6]
            rw [b_278_96]
            rw [b_278_101]
            by_cases c10 : ¬ x2 = 0
            · rw [if_pos c10] at h
              rw [if_pos c10]
              rw [b_278_109]
              rw [b_278_110]
              by_cases c11 : ¬ (1 : Int32) = (0 : Int32)
              · rw [if_pos c11] at h
                rw [if_pos c11]
                rw [b_278_118]
                rw [b_278_119]
                cases h
                rfl
              · rw [if_neg c11] at h
                rw [if_neg c11]
                rw [b_278_113]
                rw [b_278_119]
                cases h
                rfl
            · rw [if_neg c10] at h
              rw [if_neg c10]
              rw [b_278_105]
              rw [b_278_110]
              by_cases c12 : ¬ (1 : Int32) = (1 : Int32)
              · rw [if_pos c12] at h
                rw [if_pos c12]
                rw [b_278_118]
                rw [b_278_119]
                cases h
                rfl
              · rw [if_neg c12] at h
                rw [if_neg c12]
                rw [b_278_113]
                rw [b_278_119]
                cases h
                rfl
        · rw [if_neg c5] at h
          rw [if_neg c5]
          rw [b_278_83]
          exact ih.2.2 h
      · rw [if_neg c4] at h
        rw [if_neg c4]
        rw [b_278_66]
        by_cases c13 : x3 ≤ x4
        · rw [if_pos c13] at h
          rw [if_pos c13]
          rw [b_278_92]
          by_cases c14 : 0 ≤ x1
          · rw [if_pos c14] at h
            rw [if_pos c14]
            rw [b_278_100]
            rw [b_278_101]
            by_cases c15 : ¬ x2 = 0
            · rw [if_pos c15] at h
              rw [if_pos c15]
              rw [b_278_109]
              rw [b_278_110]
              by_cases c16 : ¬ (0 : Int32) = (0 : Int32)
              · rw [if_pos c16] at h
                rw [if_pos c16]
                rw [b_278_118]
                rw [b_278_119]
                cases h
                rfl
              · rw [if_neg c16] at h
                rw [if_neg c16]
                rw [b_278_113]
                rw [b_278_119]
                cases h
                rfl
            · rw [if_neg c15] at h
              rw [if_neg c15]
              rw [b_278_105]
              rw [b_278_110]
              by_cases c17 : ¬ (0 : Int32) = (1 : Int32)
              · rw [if_pos c17] at h
                rw [if_pos c17]
                rw [b_278_118]
                rw [b_278_119]
                cases h
                rfl
              · rw [if_neg c17] at h
                rw [if_neg c17]
                rw [b_278_113]
                rw [b_278_119]
                cases h
                rfl
          · rw [if_neg c14] at h
            rw [if_neg c14]
            rw [b_278_96]
            rw [b_278_101]
            by_cases c18 : ¬ x2 = 0
            · rw [if_pos c18] at h
              rw [if_pos c18]
              rw [b_278_109]
              rw [b_278_110]
              by_cases c19 : ¬ (1 : Int32) = (0 : Int32)
              · rw [if_pos c19] at h
                rw [if_pos c19]
                rw [b_278_118]
                rw [b_278_119]
                cases h
                rfl
              · rw [if_neg c19] at h
                rw [if_neg c19]
                rw [b_278_113]
                rw [b_278_119]
                cases h
                rfl
            · rw [if_neg c18] at h
              rw [if_neg c18]
              rw [b_278_105]
              rw [b_278_110]
              by_cases c20 : ¬ (1 : Int32) = (1 : Int32)
              · rw [if_pos c20] at h
                rw [if_pos c20]
                rw [b_278_118]
                rw [b_278_119]
                cases h
                rfl
              · rw [if_neg c20] at h
                rw [if_neg c20]
                rw [b_278_113]
                rw [b_278_119]
                cases h
                rfl
        · rw [if_neg c13] at h
          rw [if_neg c13]
          rw [b_278_72]
          rw [b_278_83]
          exact ih.2.2 h
def f_84 : Nat → Nat → Int32 → Option Int32
  | 0, _, _ => none
  | n + 1, hd, x0 => (if 20 ≤ x0 then (if ¬ ((x0 / 10) < 0 ∨ 10 ≤ (x0 / 10).toNatClampNeg) then (if ¬ (x0 - x0 / 10 * 10) = 0 then (if ¬ ((x0 - x0 / 10 * 10) < 0 ∨ 20 ≤ (x0 - x0 / 10 * 10).toNatClampNeg) then (some ((tb3 (x0 / 10).toNatClampNeg) + (tb2 (x0 - x0 / 10 * 10).toNatClampNeg))) else none) else (some ((tb3 (x0 / 10).toNatClampNeg) + (0 : Int32)))) else none) else (if ¬ (x0 < 0 ∨ 20 ≤ x0.toNatClampNeg) then (some (tb2 x0.toNatClampNeg)) else none))
set_option maxRecDepth 20000 in
theorem f_84_ok {d nS : Nat} {M : am_M} {Q : Option Value → am_H → Prop} (hT2 : ∀ {k : Nat}, k < 20 → M 2 k = tb2 k) (hT3 : ∀ {k : Nat}, k < 10 → M 3 k = tb3 k) (n : Nat) : (∀ {x0 : Int32} {r : Int32}, f_84 n 0 x0 = some r → am_Wp d 84 0 [.int x0] [] (hp nS M) Q = Q (some (.int r)) (hp nS M)) := by
  induction n with
  | zero => intro x0 r h; cases h
  | succ n ih =>
    intro x0 r h
    rw [f_84] at h
    rw [b_84_0]
    by_cases c1 : 20 ≤ x0
    · rw [if_pos c1] at h
      rw [if_pos c1]
      by_cases g2 : ¬ ((x0 / 10) < 0 ∨ 10 ≤ (x0 / 10).toNatClampNeg)
      rotate_left
      · rw [if_neg g2] at h
        cases h
      rw [if_pos g2] at h
      rw [b_84_12 g2]
      try rw [hT3 (vp_lt (show vp_in (x0 / 10) 10 from g2))]
      by_cases c3 : ¬ (x0 - x0 / 10 * 10) = 0
      · rw [if_pos c3] at h
        rw [if_pos c3]
        by_cases g4 : ¬ ((x0 - x0 / 10 * 10) < 0 ∨ 20 ≤ (x0 - x0 / 10 * 10).toNatClampNeg)
        rotate_left
        · rw [if_neg g4] at h
          cases h
        rw [if_pos g4] at h
        rw [b_84_31 g4]
        try rw [hT2 (vp_lt (show vp_in (x0 - x0 / 10 * 10) 20 from g4))]
        rw [b_84_39]
        cases h
        rfl
      · rw [if_neg c3] at h
        rw [if_neg c3]
        rw [b_84_27]
        rw [b_84_39]
        cases h
        rfl
    · rw [if_neg c1] at h
      rw [if_neg c1]
      by_cases g5 : ¬ (x0 < 0 ∨ 20 ≤ x0.toNatClampNeg)
      rotate_left
      · rw [if_neg g5] at h
        cases h
      rw [if_pos g5] at h
      rw [b_84_6 g5]
      try rw [hT2 (vp_lt (show vp_in x0 20 from g5))]
      cases h
      rfl
def f_83 : Nat → Nat → Int32 → Option Int32
  | 0, _, _ => none
  | n + 1, hd, x0 => (if 100 ≤ x0 then (if ¬ ((x0 / 100) < 0 ∨ 20 ≤ (x0 / 100).toNatClampNeg) then (if ¬ (x0 - x0 / 100 * 100) = 0 then (match f_84 n 0 (x0 - x0 / 100 * 100) with | some r4 => (some (((tb2 (x0 / 100).toNatClampNeg) + 7) + r4)) | none => none) else (some (((tb2 (x0 / 100).toNatClampNeg) + 7) + (0 : Int32)))) else none) else (match f_84 n 0 x0 with | some r6 => (some r6) | none => none))
set_option maxRecDepth 20000 in
theorem f_83_ok {d nS : Nat} {M : am_M} {Q : Option Value → am_H → Prop} (hT2 : ∀ {k : Nat}, k < 20 → M 2 k = tb2 k) (hT3 : ∀ {k : Nat}, k < 10 → M 3 k = tb3 k) (n : Nat) : (∀ {x0 : Int32} {r : Int32}, f_83 n 0 x0 = some r → am_Wp (d + 1) 83 0 [.int x0, .retAddr 0] [] (hp nS M) Q = Q (some (.int r)) (hp nS M)) := by
  induction n with
  | zero => intro x0 r h; cases h
  | succ n ih =>
    intro x0 r h
    rw [f_83] at h
    rw [b_83_0]
    by_cases c1 : 100 ≤ x0
    · rw [if_pos c1] at h
      rw [if_pos c1]
      by_cases g2 : ¬ ((x0 / 100) < 0 ∨ 20 ≤ (x0 / 100).toNatClampNeg)
      rotate_left
      · rw [if_neg g2] at h
        cases h
      rw [if_pos g2] at h
      rw [b_83_11 g2]
      try rw [hT2 (vp_lt (show vp_in (x0 / 100) 20 from g2))]
      by_cases c3 : ¬ (x0 - x0 / 100 * 100) = 0
      · rw [if_pos c3] at h
        rw [if_pos c3]
        rw [b_83_35]
        cases h5 : f_84 n 0 (x0 - x0 / 100 * 100) with
        | none => rw [h5] at h; cases h
        | some r4 =>
          rw [h5] at h
          replace h : (some (((tb2 (x0 / 100).toNatClampNeg) + 7) + r4)) = some r := h
          rw [(f_84_ok hT2 hT3 n) h5]
          simp only [am_ans_some]
          rw [b_83_39]
          cases h
          rfl
      · rw [if_neg c3] at h
        rw [if_neg c3]
        rw [b_83_31]
        rw [b_83_39]
        cases h
        rfl
    · rw [if_neg c1] at h
      rw [if_neg c1]
      rw [b_83_6]
      cases h7 : f_84 n 0 x0 with
      | none => rw [h7] at h; cases h
      | some r6 =>
        rw [h7] at h
        replace h : (some r6) = some r := h
        rw [(f_84_ok hT2 hT3 n) h7]
        simp only [am_ans_some]
        rw [b_83_10]
        cases h
        rfl
def f_277 : Nat → Nat → Int32 → Option Int32
  | 0, _, _ => none
  | n + 1, hd, x1 => (if ¬ (x1 / 100) = 0 then (if ¬ ((x1 / 100) < 0 ∨ 28 ≤ (x1 / 100).toNatClampNeg) then (if ¬ (x1 - x1 / 100 * 100) = 0 then (if 20 ≤ (x1 - x1 / 100 * 100) then (if ¬ ((18 + ((x1 - x1 / 100 * 100) / 10)) < 0 ∨ 28 ≤ (18 + ((x1 - x1 / 100 * 100) / 10)).toNatClampNeg) then (if ¬ ((x1 - x1 / 100 * 100) - (x1 - x1 / 100 * 100) / 10 * 10) = 0 then (if ¬ (((x1 - x1 / 100 * 100) - (x1 - x1 / 100 * 100) / 10 * 10) < 0 ∨ 28 ≤ ((x1 - x1 / 100 * 100) - (x1 - x1 / 100 * 100) / 10 * 10).toNatClampNeg) then (some ((((tb231 (x1 / 100).toNatClampNeg) + 7) + (tb231 (18 + ((x1 - x1 / 100 * 100) / 10)).toNatClampNeg)) + (tb231 ((x1 - x1 / 100 * 100) - (x1 - x1 / 100 * 100) / 10 * 10).toNatClampNeg))) else none) else (some ((((tb231 (x1 / 100).toNatClampNeg) + 7) + (tb231 (18 + ((x1 - x1 / 100 * 100) / 10)).toNatClampNeg)) + (0 : Int32)))) else none) else (if ¬ ((x1 - x1 / 100 * 100) < 0 ∨ 28 ≤ (x1 - x1 / 100 * 100).toNatClampNeg) then (some (((tb231 (x1 / 100).toNatClampNeg) + 7) + (tb231 (x1 - x1 / 100 * 100).toNatClampNeg))) else none)) else (if ¬ (x1 / 100) = 0 then (some ((tb231 (x1 / 100).toNatClampNeg) + 7)) else (some (tb231 0)))) else none) else (if ¬ (x1 - x1 / 100 * 100) = 0 then (if 20 ≤ (x1 - x1 / 100 * 100) then (if ¬ ((18 + ((x1 - x1 / 100 * 100) / 10)) < 0 ∨ 28 ≤ (18 + ((x1 - x1 / 100 * 100) / 10)).toNatClampNeg) then (if ¬ ((x1 - x1 / 100 * 100) - (x1 - x1 / 100 * 100) / 10 * 10) = 0 then (if ¬ (((x1 - x1 / 100 * 100) - (x1 - x1 / 100 * 100) / 10 * 10) < 0 ∨ 28 ≤ ((x1 - x1 / 100 * 100) - (x1 - x1 / 100 * 100) / 10 * 10).toNatClampNeg) then (some (((0 : Int32) + (tb231 (18 + ((x1 - x1 / 100 * 100) / 10)).toNatClampNeg)) + (tb231 ((x1 - x1 / 100 * 100) - (x1 - x1 / 100 * 100) / 10 * 10).toNatClampNeg))) else none) else (some (((0 : Int32) + (tb231 (18 + ((x1 - x1 / 100 * 100) / 10)).toNatClampNeg)) + (0 : Int32)))) else none) else (if ¬ ((x1 - x1 / 100 * 100) < 0 ∨ 28 ≤ (x1 - x1 / 100 * 100).toNatClampNeg) then (some ((0 : Int32) + (tb231 (x1 - x1 / 100 * 100).toNatClampNeg))) else none)) else (if ¬ (x1 / 100) = 0 then (some 0) else (some (tb231 0)))))
set_option maxRecDepth 20000 in
theorem f_277_ok {d nS : Nat} {M : am_M} {Q : Option Value → am_H → Prop} (hT231 : ∀ {k : Nat}, k < 28 → M 231 k = tb231 k) (n : Nat) : (∀ {x1 : Int32} {r : Int32}, f_277 n 0 x1 = some r → am_Wp d 277 0 [.ref 205, .int x1, .retAddr 0, .retAddr 0, .retAddr 0] [] (hp nS M) Q = Q (some (.int r)) (hp nS M)) := by
  induction n with
  | zero => intro x1 r h; cases h
  | succ n ih =>
    intro x1 r h
    rw [f_277] at h
    rw [b_277_0]
    by_cases c1 : ¬ (x1 / 100) = 0
    · rw [if_pos c1] at h
      rw [if_pos c1]
      by_cases g2 : ¬ ((x1 / 100) < 0 ∨ 28 ≤ (x1 / 100).toNatClampNeg)
      rotate_left
      · rw [if_neg g2] at h
        cases h
      rw [if_pos g2] at h
      rw [b_277_18 g2]
      try rw [hT231 (vp_lt (show vp_in (x1 / 100) 28 from g2))]
      rw [b_277_27]
      by_cases c3 : ¬ (x1 - x1 / 100 * 100) = 0
      · rw [if_pos c3] at h
        rw [if_pos c3]
        rw [b_277_49]
        by_cases c4 : 20 ≤ (x1 - x1 / 100 * 100)
        · rw [if_pos c4] at h
          rw [if_pos c4]
          by_cases g5 : ¬ ((18 + ((x1 - x1 / 100 * 100) / 10)) < 0 ∨ 28 ≤ (18 + ((x1 - x1 / 100 * 100) / 10)).toNatClampNeg)
          rotate_left
          · rw [if_neg g5] at h
            cases h
          rw [if_pos g5] at h
          rw [b_277_65 g5]
          try rw [hT231 (vp_lt (show vp_in (18 + ((x1 - x1 / 100 * 100) / 10)) 28 from g5))]
          by_cases c6 : ¬ ((x1 - x1 / 100 * 100) - (x1 - x1 / 100 * 100) / 10 * 10) = 0
          · rw [if_pos c6] at h
            rw [if_pos c6]
            by_cases g7 : ¬ (((x1 - x1 / 100 * 100) - (x1 - x1 / 100 * 100) / 10 * 10) < 0 ∨ 28 ≤ ((x1 - x1 / 100 * 100) - (x1 - x1 / 100 * 100) / 10 * 10).toNatClampNeg)
            rotate_left
            · rw [if_neg g7] at h
              cases h
            rw [if_pos g7] at h
            rw [b_277_91 g7]
            try rw [hT231 (vp_lt (show vp_in ((x1 - x1 / 100 * 100) - (x1 - x1 / 100 * 100) / 10 * 10) 28 from g7))]
            rw [b_277_100]
            cases h
            rfl
          · rw [if_neg c6] at h
            rw [if_neg c6]
            rw [b_277_87]
            rw [b_277_100]
            cases h
            rfl
        · rw [if_neg c4] at h
          rw [if_neg c4]
          by_cases g8 : ¬ ((x1 - x1 / 100 * 100) < 0 ∨ 28 ≤ (x1 - x1 / 100 * 100).toNatClampNeg)
          rotate_left
          · rw [if_neg g8] at h
            cases h
          rw [if_pos g8] at h
          rw [b_277_55 g8]
          try rw [hT231 (vp_lt (show vp_in (x1 - x1 / 100 * 100) 28 from g8))]
          cases h
          rfl
      · rw [if_neg c3] at h
        rw [if_neg c3]
        rw [b_277_33]
        by_cases c9 : ¬ (x1 / 100) = 0
        · rw [if_pos c9] at h
          rw [if_pos c9]
          rw [b_277_46]
          rw [b_277_48]
          cases h
          rfl
        · rw [if_neg c9] at h
          rw [if_neg c9]
          rw [b_277_37]
          try rw [hT231 (k := 0) (by decide)]
          rw [b_277_48]
          cases h
          rfl
    · rw [if_neg c1] at h
      rw [if_neg c1]
      rw [b_277_14]
      rw [b_277_27]
      by_cases c10 : ¬ (x1 - x1 / 100 * 100) = 0
      · rw [if_pos c10] at h
        rw [if_pos c10]
        rw [b_277_49]
        by_cases c11 : 20 ≤ (x1 - x1 / 100 * 100)
        · rw [if_pos c11] at h
          rw [if_pos c11]
          by_cases g12 : ¬ ((18 + ((x1 - x1 / 100 * 100) / 10)) < 0 ∨ 28 ≤ (18 + ((x1 - x1 / 100 * 100) / 10)).toNatClampNeg)
          rotate_left
          · rw [if_neg g12] at h
            cases h
          rw [if_pos g12] at h
          rw [b_277_65 g12]
          try rw [hT231 (vp_lt (show vp_in (18 + ((x1 - x1 / 100 * 100) / 10)) 28 from g12))]
          by_cases c13 : ¬ ((x1 - x1 / 100 * 100) - (x1 - x1 / 100 * 100) / 10 * 10) = 0
          · rw [if_pos c13] at h
            rw [if_pos c13]
            by_cases g14 : ¬ (((x1 - x1 / 100 * 100) - (x1 - x1 / 100 * 100) / 10 * 10) < 0 ∨ 28 ≤ ((x1 - x1 / 100 * 100) - (x1 - x1 / 100 * 100) / 10 * 10).toNatClampNeg)
            rotate_left
            · rw [if_neg g14] at h
              cases h
            rw [if_pos g14] at h
            rw [b_277_91 g14]
            try rw [hT231 (vp_lt (show vp_in ((x1 - x1 / 100 * 100) - (x1 - x1 / 100 * 100) / 10 * 10) 28 from g14))]
            rw [b_277_100]
            cases h
            rfl
          · rw [if_neg c13] at h
            rw [if_neg c13]
            rw [b_277_87]
            rw [b_277_100]
            cases h
            rfl
        · rw [if_neg c11] at h
          rw [if_neg c11]
          by_cases g15 : ¬ ((x1 - x1 / 100 * 100) < 0 ∨ 28 ≤ (x1 - x1 / 100 * 100).toNatClampNeg)
          rotate_left
          · rw [if_neg g15] at h
            cases h
          rw [if_pos g15] at h
          rw [b_277_55 g15]
          try rw [hT231 (vp_lt (show vp_in (x1 - x1 / 100 * 100) 28 from g15))]
          cases h
          rfl
      · rw [if_neg c10] at h
        rw [if_neg c10]
        rw [b_277_33]
        by_cases c16 : ¬ (x1 / 100) = 0
        · rw [if_pos c16] at h
          rw [if_pos c16]
          rw [b_277_46]
          rw [b_277_48]
          cases h
          rfl
        · rw [if_neg c16] at h
          rw [if_neg c16]
          rw [b_277_37]
          try rw [hT231 (k := 0) (by decide)]
          rw [b_277_48]
          cases h
          rfl
def f_81 : Nat → Nat → Int32 → Int32 → Int32 → Int32 → Option Int32
  | 0, _, _, _, _, _ => none
  | n + 1, hd, x0, x1, x2, x3 => if hd = 0 then (f_81 n 1 x0 0 x0 0) else
    (if 31 ≤ x3 then (some x1) else (if x2 = 0 then (some x1) else (f_81 n 1 x0 (x1 ||| ((x2 &&& 1) <<< (x3 &&& 31))) ((x2 - (x2 &&& 1)) / (-2)) (x3 + 1))))
set_option maxRecDepth 20000 in
theorem f_81_ok {d nS : Nat} {M : am_M} {Q : Option Value → am_H → Prop} (n : Nat) : (∀ {x0 : Int32} {r : Int32}, f_81 n 0 x0 0 0 0 = some r → am_Wp d 81 0 [.int x0, .retAddr 0, .retAddr 0, .retAddr 0, .retAddr 0] [] (hp nS M) Q = Q (some (.int r)) (hp nS M)) ∧ (∀ {x0 x1 x2 x3 : Int32} {zx4 : Value} {r : Int32}, f_81 n 1 x0 x1 x2 x3 = some r → am_Wp d 81 6 [.int x0, .int x1, .int x2, .int x3, zx4] [] (hp nS M) Q = Q (some (.int r)) (hp nS M)) := by
  induction n with
  | zero => exact ⟨fun h => (by cases h), fun h => (by cases h)⟩
  | succ n ih =>
    refine ⟨?_, ?_⟩
    · intro x0 r h
      rw [f_81] at h
      rw [if_pos rfl] at h
      rw [b_81_0]
      exact ih.2 h
    · intro x0 x1 x2 x3 zx4 r h
      rw [f_81] at h
      rw [if_neg (by decide)] at h
      rw [b_81_6]
      by_cases c1 : 31 ≤ x3
      · rw [if_pos c1] at h
        rw [if_pos c1]
        rw [b_81_42]
        cases h
        rfl
      · rw [if_neg c1] at h
        rw [if_neg c1]
        rw [b_81_12]
        by_cases c2 : x2 = 0
        · rw [if_pos c2] at h
          rw [if_pos c2]
          rw [b_81_42]
          cases h
          rfl
        · rw [if_neg c2] at h
          rw [if_neg c2]
          rw [b_81_16]
          exact ih.2 h
def f_82 : Nat → Nat → Int32 → Int32 → Option Int32
  | 0, _, _, _ => none
  | n + 1, hd, x0, x1 => if hd = 0 then (f_82 n 1 x0 1) else
    (if 31 ≤ x1 then (some x1) else (if (x0 >>> (x1 &&& 31)) = 0 then (some x1) else (f_82 n 1 x0 (x1 + 1))))
set_option maxRecDepth 20000 in
theorem f_82_ok {d nS : Nat} {M : am_M} {Q : Option Value → am_H → Prop} (n : Nat) : (∀ {x0 : Int32} {r : Int32}, f_82 n 0 x0 0 = some r → am_Wp d 82 0 [.int x0, .retAddr 0] [] (hp nS M) Q = Q (some (.int r)) (hp nS M)) ∧ (∀ {x0 x1 : Int32} {r : Int32}, f_82 n 1 x0 x1 = some r → am_Wp d 82 2 [.int x0, .int x1] [] (hp nS M) Q = Q (some (.int r)) (hp nS M)) := by
  induction n with
  | zero => exact ⟨fun h => (by cases h), fun h => (by cases h)⟩
  | succ n ih =>
    refine ⟨?_, ?_⟩
    · intro x0 r h
      rw [f_82] at h
      rw [if_pos rfl] at h
      rw [b_82_0]
      exact ih.2 h
    · intro x0 x1 r h
      rw [f_82] at h
      rw [if_neg (by decide)] at h
      rw [b_82_2]
      by_cases c1 : 31 ≤ x1
      · rw [if_pos c1] at h
        rw [if_pos c1]
        rw [b_82_20]
        cases h
        rfl
      · rw [if_neg c1] at h
        rw [if_neg c1]
        rw [b_82_8]
        by_cases c2 : (x0 >>> (x1 &&& 31)) = 0
        · rw [if_pos c2] at h
          rw [if_pos c2]
          rw [b_82_20]
          cases h
          rfl
        · rw [if_neg c2] at h
          rw [if_neg c2]
          rw [b_82_14]
          exact ih.2 h
def f_275 : Nat → Nat → Int32 → Int32 → Int32 → Int32 → Int32 → Option Int32
  | 0, _, _, _, _, _, _ => none
  | n + 1, hd, x1, x2, x3, x4, x5 => if hd = 0 then (f_275 n 1 x1 x2 0 0 x1) else
    (if ¬ x5 = 0 then (f_275 n 1 x1 x2 (x3 ||| ((x5 &&& 1) <<< (x4 &&& 31))) (x4 + 1) ((x5 - (x5 &&& 1)) / (-2))) else (if ¬ x4 = 0 then (if ¬ x2 = 0 then (some x3) else (some x4)) else (f_275 n 1 x1 x2 (x3 ||| ((x5 &&& 1) <<< (x4 &&& 31))) (x4 + 1) ((x5 - (x5 &&& 1)) / (-2)))))
set_option maxRecDepth 20000 in
theorem f_275_ok {d nS : Nat} {M : am_M} {Q : Option Value → am_H → Prop} (n : Nat) : (∀ {x1 x2 : Int32} {r : Int32}, f_275 n 0 x1 x2 0 0 0 = some r → am_Wp d 275 31 [.ref 205, .int x1, .int x2, .retAddr 0, .retAddr 0, .retAddr 0, .retAddr 0] [] (hp nS M) Q = Q (some (.int r)) (hp nS M)) ∧ (∀ {x1 x2 x3 x4 x5 : Int32} {zx6 : Value} {r : Int32}, f_275 n 1 x1 x2 x3 x4 x5 = some r → am_Wp d 275 39 [.ref 205, .int x1, .int x2, .int x3, .int x4, .int x5, zx6] [] (hp nS M) Q = Q (some (.int r)) (hp nS M)) := by
  induction n with
  | zero => exact ⟨fun h => (by cases h), fun h => (by cases h)⟩
  | succ n ih =>
    refine ⟨?_, ?_⟩
    · intro x1 x2 r h
      rw [f_275] at h
      rw [if_pos rfl] at h
      rw [b_275_31]
      exact ih.2 h
    · intro x1 x2 x3 x4 x5 zx6 r h
      rw [f_275] at h
      rw [if_neg (by decide)] at h
      rw [b_275_39]
      by_cases c1 : ¬ x5 = 0
      · rw [if_pos c1] at h
        rw [if_pos c1]
        rw [b_275_49]
        exact ih.2 h
      · rw [if_neg c1] at h
        rw [if_neg c1]
        rw [b_275_44]
        by_cases c2 : ¬ x4 = 0
        · rw [if_pos c2] at h
          rw [if_pos c2]
          rw [b_275_82]
          by_cases c3 : ¬ x2 = 0
          · rw [if_pos c3] at h
            rw [if_pos c3]
            rw [b_275_91]
            rw [b_275_92]
            cases h
            rfl
          · rw [if_neg c3] at h
            rw [if_neg c3]
            rw [b_275_86]
            rw [b_275_92]
            cases h
            rfl
        · rw [if_neg c2] at h
          rw [if_neg c2]
          rw [b_275_49]
          exact ih.2 h
def f_79 : Nat → Nat → Int32 → Int32 → Int32 → Option Int32
  | 0, _, _, _, _ => none
  | n + 1, hd, x0, x1, x2 => if hd = 0 then (if ¬ ((x0 - x0 / 10 * 10) < 0 ∨ 10 ≤ (x0 - x0 / 10 * 10).toNatClampNeg) then (f_79 n 1 x0 (tb1 (x0 - x0 / 10 * 10).toNatClampNeg) (x0 / 10)) else none) else
    (if x2 ≤ 0 then (some x1) else (if ¬ ((x2 - x2 / 10 * 10) < 0 ∨ 10 ≤ (x2 - x2 / 10 * 10).toNatClampNeg) then (f_79 n 1 x0 (x1 + (tb1 (x2 - x2 / 10 * 10).toNatClampNeg)) (x2 / 10)) else none))
set_option maxRecDepth 20000 in
theorem f_79_ok {d nS : Nat} {M : am_M} {Q : Option Value → am_H → Prop} (hT1 : ∀ {k : Nat}, k < 10 → M 1 k = tb1 k) (n : Nat) : (∀ {x0 : Int32} {r : Int32}, f_79 n 0 x0 0 0 = some r → am_Wp d 79 0 [.int x0, .retAddr 0, .retAddr 0] [] (hp nS M) Q = Q (some (.int r)) (hp nS M)) ∧ (∀ {x0 x1 x2 : Int32} {r : Int32}, f_79 n 1 x0 x1 x2 = some r → am_Wp d 79 14 [.int x0, .int x1, .int x2] [] (hp nS M) Q = Q (some (.int r)) (hp nS M)) := by
  induction n with
  | zero => exact ⟨fun h => (by cases h), fun h => (by cases h)⟩
  | succ n ih =>
    refine ⟨?_, ?_⟩
    · intro x0 r h
      rw [f_79] at h
      rw [if_pos rfl] at h
      by_cases g1 : ¬ ((x0 - x0 / 10 * 10) < 0 ∨ 10 ≤ (x0 - x0 / 10 * 10).toNatClampNeg)
      rotate_left
      · rw [if_neg g1] at h
        cases h
      rw [if_pos g1] at h
      rw [b_79_0 g1]
      try rw [hT1 (vp_lt (show vp_in (x0 - x0 / 10 * 10) 10 from g1))]
      exact ih.2 h
    · intro x0 x1 x2 r h
      rw [f_79] at h
      rw [if_neg (by decide)] at h
      rw [b_79_14]
      by_cases c2 : x2 ≤ 0
      · rw [if_pos c2] at h
        rw [if_pos c2]
        rw [b_79_37]
        cases h
        rfl
      · rw [if_neg c2] at h
        rw [if_neg c2]
        by_cases g3 : ¬ ((x2 - x2 / 10 * 10) < 0 ∨ 10 ≤ (x2 - x2 / 10 * 10).toNatClampNeg)
        rotate_left
        · rw [if_neg g3] at h
          cases h
        rw [if_pos g3] at h
        rw [b_79_18 g3]
        try rw [hT1 (vp_lt (show vp_in (x2 - x2 / 10 * 10) 10 from g3))]
        exact ih.2 h
def f_273 : Nat → Nat → Int32 → Int32 → Int32 → Option Int32
  | 0, _, _, _, _ => none
  | n + 1, hd, x1, x2, x3 => if hd = 0 then (if ¬ x1 = 0 then (f_273 n 1 x1 0 x1) else (f_273 n 1 x1 6 x1)) else
    (if x3 ≤ 0 then (some x2) else (if ¬ ((x3 - x3 / 10 * 10) < 0 ∨ 10 ≤ (x3 - x3 / 10 * 10).toNatClampNeg) then (f_273 n 1 x1 (x2 + (tb230 (x3 - x3 / 10 * 10).toNatClampNeg)) (x3 / 10)) else none))
set_option maxRecDepth 20000 in
theorem f_273_ok {d nS : Nat} {M : am_M} {Q : Option Value → am_H → Prop} (hT230 : ∀ {k : Nat}, k < 10 → M 230 k = tb230 k) (n : Nat) : (∀ {x1 : Int32} {r : Int32}, f_273 n 0 x1 0 0 = some r → am_Wp d 273 0 [.ref 205, .int x1, .retAddr 0, .retAddr 0] [] (hp nS M) Q = Q (some (.int r)) (hp nS M)) ∧ (∀ {x1 x2 x3 : Int32} {r : Int32}, f_273 n 1 x1 x2 x3 = some r → am_Wp d 273 13 [.ref 205, .int x1, .int x2, .int x3] [] (hp nS M) Q = Q (some (.int r)) (hp nS M)) := by
  induction n with
  | zero => exact ⟨fun h => (by cases h), fun h => (by cases h)⟩
  | succ n ih =>
    refine ⟨?_, ?_⟩
    · intro x1 r h
      rw [f_273] at h
      rw [if_pos rfl] at h
      rw [b_273_0]
      by_cases c1 : ¬ x1 = 0
      · rw [if_pos c1] at h
        rw [if_pos c1]
        rw [b_273_9]
        rw [b_273_10]
        exact ih.2 h
      · rw [if_neg c1] at h
        rw [if_neg c1]
        rw [b_273_4]
        rw [b_273_10]
        exact ih.2 h
    · intro x1 x2 x3 r h
      rw [f_273] at h
      rw [if_neg (by decide)] at h
      rw [b_273_13]
      by_cases c2 : x3 ≤ 0
      · rw [if_pos c2] at h
        rw [if_pos c2]
        rw [b_273_37]
        cases h
        rfl
      · rw [if_neg c2] at h
        rw [if_neg c2]
        by_cases g3 : ¬ ((x3 - x3 / 10 * 10) < 0 ∨ 10 ≤ (x3 - x3 / 10 * 10).toNatClampNeg)
        rotate_left
        · rw [if_neg g3] at h
          cases h
        rw [if_pos g3] at h
        rw [b_273_17 g3]
        try rw [hT230 (vp_lt (show vp_in (x3 - x3 / 10 * 10) 10 from g3))]
        exact ih.2 h
