/-! THE REFERENCE'S METHODS without loops, by program (ct.py) -/
theorem bn1 : ¬ (1 : Int32) = 0 := by decide
theorem bn0 : ¬ ¬ (0 : Int32) = 0 := by decide
theorem rok_ite {c : Prop} [Decidable c] : am_rok .boolean (if c then 1 else 0) = true := by
  by_cases h : c
  · rw [if_pos h]; rfl
  · rw [if_neg h]; rfl
-- state(I)I
set_option maxRecDepth 20000 in
theorem c_169 {d nS : Nat} {x1 : Int32} {M : am_M} {Q : Option Value → am_H → Prop} : am_Wp d 169 0 [.ref 205, .int x1, .retAddr 0] [] (hp nS M) Q = Q (some (.int ((am_up M 205 0 0) 206 1))) (hp nS (am_up (am_up (am_up M 205 0 0) 206 1 x1) 205 5 0)) := by
  rw [b_169_0]
-- isIn(III)Z
set_option maxRecDepth 20000 in
theorem c_171 {d nS : Nat} {x1 x2 x3 : Int32} {M : am_M} {Q : Option Value → am_H → Prop} : am_Wp d 171 0 [.ref 205, .int x1, .int x2, .int x3] [] (hp nS M) Q = Q (some (.int (if ¬ (x1 < x2) ∧ (¬ (x3 < x1)) then 1 else 0))) (hp nS M) := by
  rw [b_171_0]
  by_cases c1 : x1 < x2
  · rw [if_pos c1]
    rw [b_171_14]
    rw [b_171_15]
    rw [if_neg (fun q => q.1 c1)]
  · rw [if_neg c1]
    rw [b_171_5]
    by_cases c2 : x3 < x1
    · rw [if_pos c2]
      rw [b_171_14]
      rw [b_171_15]
      rw [if_neg (fun q => (fun q => q c2) q.2)]
    · rw [if_neg c2]
      rw [b_171_10]
      rw [b_171_15]
      rw [if_pos ⟨c1, c2⟩]
-- end(I)Z
set_option maxRecDepth 20000 in
theorem c_182 {d nS : Nat} {x1 : Int32} {M : am_M} {Q : Option Value → am_H → Prop} : am_Wp (d + 1) 182 0 [.ref 205, .int x1] [] (hp nS M) Q = (if ¬ (x1 < 0) ∧ (¬ (((am_up M 205 0 0) 205 15) < x1)) then Q (some (.int 1)) (hp nS (am_up (am_up M 205 0 0) 205 15 x1)) else Q (some (.int 0)) (hp nS (am_up M 205 0 0))) := by
  rw [b_182_0]
  rw [c_171]
  simp only [am_ans_some]
  rw [b_182_15]
  by_cases c1 : ¬ (x1 < 0) ∧ (¬ (((am_up M 205 0 0) 205 15) < x1))
  · rw [if_pos c1, if_pos bn1, if_pos c1]
    rw [b_182_20]
  · rw [if_neg c1, if_neg bn0, if_neg c1]
    rw [b_182_18]
-- fault(I)I
set_option maxRecDepth 20000 in
theorem c_217 {d nS : Nat} {x1 : Int32} {M : am_M} {Q : Option Value → am_H → Prop} : am_Wp d 217 0 [.ref 205, .int x1] [] (hp nS M) Q = (if ¬ x1 = 0 then (if ¬ x1 = 1 then Q (some (.int (-1))) (hp nS (am_up M 205 0 0)) else Q (some (.int ((am_up M 205 0 0) 205 36))) (hp nS (am_up M 205 0 0))) else Q (some (.int ((am_up M 205 0 0) 205 35))) (hp nS (am_up M 205 0 0))) := by
  rw [b_217_0]
  by_cases c1 : ¬ x1 = 0
  · rw [if_pos c1, if_pos c1]
    rw [b_217_16]
    by_cases c2 : ¬ x1 = 1
    · rw [if_pos c2, if_pos c2]
      rw [b_217_28]
      rw [b_217_29]
    · rw [if_neg c2, if_neg c2]
      rw [b_217_21]
      rw [b_217_29]
  · rw [if_neg c1, if_neg c1]
    rw [b_217_9]
    rw [b_217_29]
-- book(II)I
set_option maxRecDepth 20000 in
theorem c_250 {d nS : Nat} {x1 x2 : Int32} {M : am_M} {Q : Option Value → am_H → Prop} (p1 : (¬ (x1 < 0) ∧ (¬ ((((am_up M 205 0 0) 206 2) - 1) < x1))) → (¬ (x2 < 0) ∧ (¬ (3 < x2))) → vp_in ((4 * x1) + x2) 600) : am_Wp (d + 1) 250 0 [.ref 205, .int x1, .int x2] [] (hp nS M) Q = (if ¬ (x1 < 0) ∧ (¬ ((((am_up M 205 0 0) 206 2) - 1) < x1)) then (if ¬ (x2 < 0) ∧ (¬ (3 < x2)) then Q (some (.int ((am_up M 205 0 0) 211 ((4 * x1) + x2).toNatClampNeg))) (hp nS (am_up M 205 0 0)) else Q (some (.int (-10))) (hp nS (am_up M 205 0 0))) else Q (some (.int (-10))) (hp nS (am_up M 205 0 0))) := by
  rw [b_250_0]
  rw [c_171]
  simp only [am_ans_some]
  rw [b_250_19]
  by_cases c1 : ¬ (x1 < 0) ∧ (¬ ((((am_up M 205 0 0) 206 2) - 1) < x1))
  · rw [if_pos c1, if_neg bn1, if_pos c1]
    rw [b_250_22]
    rw [c_171]
    simp only [am_ans_some]
    rw [b_250_29]
    by_cases c2 : ¬ (x2 < 0) ∧ (¬ (3 < x2))
    · rw [if_pos c2, if_neg bn1, if_pos c2]
      rw [b_250_32 (p1 c1 c2)]
      rw [b_250_47]
    · rw [if_neg c2, if_pos rfl, if_neg c2]
      rw [b_250_45]
      rw [b_250_47]
  · rw [if_neg c1, if_pos rfl, if_neg c1]
    rw [b_250_45]
    rw [b_250_47]
-- price(I)I
set_option maxRecDepth 20000 in
theorem c_256 {d nS : Nat} {x1 : Int32} {M : am_M} {Q : Option Value → am_H → Prop} (p1 : (¬ x1 = (-1)) → (¬ (x1 < 1) ∧ (¬ (99 < x1))) → (¬ ((am_up M 205 0 0) 205 45) = 14) → vp_in ((am_up M 205 0 0) 205 45) 14) : am_Wp (d + 1) 256 0 [.ref 205, .int x1] [] (hp nS M) Q = (if ¬ x1 = (-1) then (if ¬ (x1 < 1) ∧ (¬ (99 < x1)) then (if ¬ ((am_up M 205 0 0) 205 45) = 14 then Q (some (.int ((am_up (am_up (am_up M 205 0 0) 227 ((am_up M 205 0 0) 205 45).toNatClampNeg x1) 205 45 (((am_up (am_up M 205 0 0) 227 ((am_up M 205 0 0) 205 45).toNatClampNeg x1) 205 45) + 1)) 205 45))) (hp nS (am_up (am_up (am_up M 205 0 0) 227 ((am_up M 205 0 0) 205 45).toNatClampNeg x1) 205 45 (((am_up (am_up M 205 0 0) 227 ((am_up M 205 0 0) 205 45).toNatClampNeg x1) 205 45) + 1))) else Q (some (.int (-1))) (hp nS (am_up M 205 0 0))) else Q (some (.int (-1))) (hp nS (am_up M 205 0 0))) else Q (some (.int 0)) (hp nS (am_up (am_up M 205 0 0) 205 45 0))) := by
  rw [b_256_0]
  by_cases c1 : ¬ x1 = (-1)
  · rw [if_pos c1, if_pos c1]
    rw [b_256_17]
    rw [c_171]
    simp only [am_ans_some]
    rw [b_256_25]
    by_cases c2 : ¬ (x1 < 1) ∧ (¬ (99 < x1))
    · rw [if_pos c2, if_neg bn1, if_pos c2]
      rw [b_256_28]
      by_cases c3 : ¬ ((am_up M 205 0 0) 205 45) = 14
      · rw [if_pos c3, if_pos c3]
        rw [b_256_39 (p1 c1 c2 c3)]
      · rw [if_neg c3, if_neg c3]
        rw [b_256_37]
    · rw [if_neg c2, if_pos rfl, if_neg c2]
      rw [b_256_37]
  · rw [if_neg c1, if_neg c1]
    rw [b_256_10]
-- change(III)Z
set_option maxRecDepth 20000 in
theorem c_264 {d nS : Nat} {x1 x2 x3 : Int32} {M : am_M} {Q : Option Value → am_H → Prop} (p1 : (¬ (x1 < 0) ∧ (¬ (3 < x1))) → (¬ (x2 < 0) ∧ (¬ (3 < x2))) → (¬ x1 = x2) → (x3 = 0) → vp_in ((4 * x1) + x2) 16) (p2 : (¬ (x1 < 0) ∧ (¬ (3 < x1))) → (¬ (x2 < 0) ∧ (¬ (3 < x2))) → (¬ x1 = x2) → ¬ (x3 = 0) → (¬ (x3 < 11) ∧ (¬ (99 < x3))) → (¬ (x3 - x3 / 10 * 10) = 0) → vp_in ((4 * x1) + x2) 16) : am_Wp (d + 1) 264 0 [.ref 205, .int x1, .int x2, .int x3] [] (hp nS M) Q = (if ¬ (x1 < 0) ∧ (¬ (3 < x1)) then (if ¬ (x2 < 0) ∧ (¬ (3 < x2)) then (if ¬ x1 = x2 then (if x3 = 0 then Q (some (.int 1)) (hp nS (am_up (am_up M 205 0 0) 229 ((4 * x1) + x2).toNatClampNeg x3)) else (if ¬ (x3 < 11) ∧ (¬ (99 < x3)) then (if ¬ (x3 - x3 / 10 * 10) = 0 then Q (some (.int 1)) (hp nS (am_up (am_up M 205 0 0) 229 ((4 * x1) + x2).toNatClampNeg x3)) else Q (some (.int 0)) (hp nS (am_up M 205 0 0))) else Q (some (.int 0)) (hp nS (am_up M 205 0 0)))) else Q (some (.int 0)) (hp nS (am_up M 205 0 0))) else Q (some (.int 0)) (hp nS (am_up M 205 0 0))) else Q (some (.int 0)) (hp nS (am_up M 205 0 0))) := by
  rw [b_264_0]
  rw [c_171]
  simp only [am_ans_some]
  rw [b_264_12]
  by_cases c1 : ¬ (x1 < 0) ∧ (¬ (3 < x1))
  · rw [if_pos c1, if_neg bn1, if_pos c1]
    rw [b_264_15]
    rw [c_171]
    simp only [am_ans_some]
    rw [b_264_22]
    by_cases c2 : ¬ (x2 < 0) ∧ (¬ (3 < x2))
    · rw [if_pos c2, if_neg bn1, if_pos c2]
      rw [b_264_25]
      by_cases c3 : ¬ x1 = x2
      · rw [if_pos c3, if_pos c3]
        rw [b_264_32]
        by_cases c4 : x3 = 0
        · rw [if_pos c4, if_pos c4]
          rw [b_264_57 (p1 c1 c2 c3 c4)]
        · rw [if_neg c4, if_neg c4]
          rw [b_264_36]
          rw [c_171]
          simp only [am_ans_some]
          rw [b_264_45]
          by_cases c5 : ¬ (x3 < 11) ∧ (¬ (99 < x3))
          · rw [if_pos c5, if_neg bn1, if_pos c5]
            rw [b_264_48]
            by_cases c6 : ¬ (x3 - x3 / 10 * 10) = 0
            · rw [if_pos c6, if_pos c6]
              rw [b_264_57 (p2 c1 c2 c3 c4 c5 c6)]
            · rw [if_neg c6, if_neg c6]
              rw [b_264_55]
          · rw [if_neg c5, if_pos rfl, if_neg c5]
            rw [b_264_55]
      · rw [if_neg c3, if_neg c3]
        rw [b_264_30]
    · rw [if_neg c2, if_pos rfl, if_neg c2]
      rw [b_264_30]
  · rw [if_neg c1, if_pos rfl, if_neg c1]
    rw [b_264_30]
-- sack(II)I
set_option maxRecDepth 20000 in
theorem c_283 {d nS : Nat} {x1 x2 : Int32} {M : am_M} {Q : Option Value → am_H → Prop} (p1 : (¬ x1 = (-1)) → (¬ (x1 < 1) ∧ (¬ (30 < x1))) → (¬ (x2 < 1) ∧ (¬ (99 < x2))) → (¬ ((am_up M 205 0 0) 205 54) = 8) → vp_in ((am_up M 205 0 0) 205 54) 8) (p2 : (¬ x1 = (-1)) → (¬ (x1 < 1) ∧ (¬ (30 < x1))) → (¬ (x2 < 1) ∧ (¬ (99 < x2))) → (¬ ((am_up M 205 0 0) 205 54) = 8) → vp_in ((am_up (am_up M 205 0 0) 234 ((am_up M 205 0 0) 205 54).toNatClampNeg x1) 205 54) 8) : am_Wp (d + 1) 283 0 [.ref 205, .int x1, .int x2] [] (hp nS M) Q = (if ¬ x1 = (-1) then (if ¬ (x1 < 1) ∧ (¬ (30 < x1)) then (if ¬ (x2 < 1) ∧ (¬ (99 < x2)) then (if ¬ ((am_up M 205 0 0) 205 54) = 8 then Q (some (.int ((am_up (am_up (am_up (am_up M 205 0 0) 234 ((am_up M 205 0 0) 205 54).toNatClampNeg x1) 235 ((am_up (am_up M 205 0 0) 234 ((am_up M 205 0 0) 205 54).toNatClampNeg x1) 205 54).toNatClampNeg x2) 205 54 (((am_up (am_up (am_up M 205 0 0) 234 ((am_up M 205 0 0) 205 54).toNatClampNeg x1) 235 ((am_up (am_up M 205 0 0) 234 ((am_up M 205 0 0) 205 54).toNatClampNeg x1) 205 54).toNatClampNeg x2) 205 54) + 1)) 205 54))) (hp nS (am_up (am_up (am_up (am_up M 205 0 0) 234 ((am_up M 205 0 0) 205 54).toNatClampNeg x1) 235 ((am_up (am_up M 205 0 0) 234 ((am_up M 205 0 0) 205 54).toNatClampNeg x1) 205 54).toNatClampNeg x2) 205 54 (((am_up (am_up (am_up M 205 0 0) 234 ((am_up M 205 0 0) 205 54).toNatClampNeg x1) 235 ((am_up (am_up M 205 0 0) 234 ((am_up M 205 0 0) 205 54).toNatClampNeg x1) 205 54).toNatClampNeg x2) 205 54) + 1))) else Q (some (.int (-1))) (hp nS (am_up M 205 0 0))) else Q (some (.int (-1))) (hp nS (am_up M 205 0 0))) else Q (some (.int (-1))) (hp nS (am_up M 205 0 0))) else Q (some (.int 0)) (hp nS (am_up (am_up M 205 0 0) 205 54 0))) := by
  rw [b_283_0]
  by_cases c1 : ¬ x1 = (-1)
  · rw [if_pos c1, if_pos c1]
    rw [b_283_17]
    rw [c_171]
    simp only [am_ans_some]
    rw [b_283_25]
    by_cases c2 : ¬ (x1 < 1) ∧ (¬ (30 < x1))
    · rw [if_pos c2, if_neg bn1, if_pos c2]
      rw [b_283_28]
      rw [c_171]
      simp only [am_ans_some]
      rw [b_283_36]
      by_cases c3 : ¬ (x2 < 1) ∧ (¬ (99 < x2))
      · rw [if_pos c3, if_neg bn1, if_pos c3]
        rw [b_283_39]
        by_cases c4 : ¬ ((am_up M 205 0 0) 205 54) = 8
        · rw [if_pos c4, if_pos c4]
          rw [b_283_50 (p1 c1 c2 c3 c4) (p2 c1 c2 c3 c4)]
        · rw [if_neg c4, if_neg c4]
          rw [b_283_48]
      · rw [if_neg c3, if_pos rfl, if_neg c3]
        rw [b_283_48]
    · rw [if_neg c2, if_pos rfl, if_neg c2]
      rw [b_283_48]
  · rw [if_neg c1, if_neg c1]
    rw [b_283_10]
-- stockAt(II)I
set_option maxRecDepth 20000 in
theorem c_173 {d nS : Nat} {x1 x2 : Int32} {M : am_M} {Q : Option Value → am_H → Prop} : am_Wp d 173 0 [.ref 205, .int x1, .int x2] [] (hp nS M) Q = Q (some (.int ((56 + (8 * x1)) + x2))) (hp nS M) := by
  rw [b_173_0]
-- isLark(I)Z
set_option maxRecDepth 20000 in
theorem c_177 {d nS : Nat} {x1 : Int32} {M : am_M} {Q : Option Value → am_H → Prop} : am_Wp d 177 0 [.ref 205, .int x1] [] (hp nS M) Q = Q (some (.int (if ¬ (x1 < 0) ∧ (¬ ((M 205 8) ≤ x1)) then 1 else 0))) (hp nS M) := by
  rw [b_177_0]
  by_cases c1 : x1 < 0
  · rw [if_pos c1]
    rw [b_177_16]
    rw [b_177_17]
    rw [if_neg (fun q => q.1 c1)]
  · rw [if_neg c1]
    rw [b_177_4]
    by_cases c2 : (M 205 8) ≤ x1
    · rw [if_pos c2]
      rw [b_177_16]
      rw [b_177_17]
      rw [if_neg (fun q => (fun q => q c2) q.2)]
    · rw [if_neg c2]
      rw [b_177_12]
      rw [b_177_17]
      rw [if_pos ⟨c1, c2⟩]
-- isGood(I)Z
set_option maxRecDepth 20000 in
theorem c_178 {d nS : Nat} {x1 : Int32} {M : am_M} {Q : Option Value → am_H → Prop} : am_Wp d 178 0 [.ref 205, .int x1] [] (hp nS M) Q = Q (some (.int (if ¬ (x1 < 0) ∧ (¬ ((M 205 9) ≤ x1)) then 1 else 0))) (hp nS M) := by
  rw [b_178_0]
  by_cases c1 : x1 < 0
  · rw [if_pos c1]
    rw [b_178_16]
    rw [b_178_17]
    rw [if_neg (fun q => q.1 c1)]
  · rw [if_neg c1]
    rw [b_178_4]
    by_cases c2 : (M 205 9) ≤ x1
    · rw [if_pos c2]
      rw [b_178_16]
      rw [b_178_17]
      rw [if_neg (fun q => (fun q => q c2) q.2)]
    · rw [if_neg c2]
      rw [b_178_12]
      rw [b_178_17]
      rw [if_pos ⟨c1, c2⟩]
-- isTrader(I)Z
set_option maxRecDepth 20000 in
theorem c_179 {d nS : Nat} {x1 : Int32} {M : am_M} {Q : Option Value → am_H → Prop} : am_Wp d 179 0 [.ref 205, .int x1] [] (hp nS M) Q = Q (some (.int (if ¬ (x1 < 0) ∧ (¬ ((M 205 10) ≤ x1)) then 1 else 0))) (hp nS M) := by
  rw [b_179_0]
  by_cases c1 : x1 < 0
  · rw [if_pos c1]
    rw [b_179_16]
    rw [b_179_17]
    rw [if_neg (fun q => q.1 c1)]
  · rw [if_neg c1]
    rw [b_179_4]
    by_cases c2 : (M 205 10) ≤ x1
    · rw [if_pos c2]
      rw [b_179_16]
      rw [b_179_17]
      rw [if_neg (fun q => (fun q => q c2) q.2)]
    · rw [if_neg c2]
      rw [b_179_12]
      rw [b_179_17]
      rw [if_pos ⟨c1, c2⟩]
-- canSet(III)Z
set_option maxRecDepth 20000 in
theorem c_176 {d nS : Nat} {x1 x2 x3 : Int32} {M : am_M} {Q : Option Value → am_H → Prop} : am_Wp (d + 1) 176 0 [.ref 205, .int x1, .int x2, .int x3] [] (hp nS M) Q = Q (some (.int (if ¬ x1 = 6 then (if ¬ (x1 < 0) ∧ (¬ (2 < x1)) then (if ¬ (x2 < 0) ∧ (¬ ((M 205 8) ≤ x2)) then (if ¬ x1 = 1 then (if ¬ (x3 < 0) ∧ (¬ (9 < x3)) then 1 else 0) else (if ¬ (x3 < 0) ∧ (¬ (999 < x3)) then 1 else 0)) else 0) else (if ¬ (x1 < 3) ∧ (¬ (4 < x1)) then (if ¬ (x2 < 0) ∧ (¬ ((M 205 9) ≤ x2)) then (if ¬ x1 = 3 then (if ¬ (x3 < 1) ∧ (¬ (999 < x3)) then 1 else 0) else (if ¬ (x3 < 1) ∧ (¬ (99 < x3)) then 1 else 0)) else 0) else (if ¬ x1 = 5 then 0 else (if ¬ (x2 < 0) ∧ (¬ ((M 205 10) ≤ x2)) then (if ¬ (x3 < 0) ∧ (¬ (9999 < x3)) then 1 else 0) else 0)))) else (if ¬ (x3 < 0) ∧ (¬ (9 < x3)) then 1 else 0)))) (hp nS M) := by
  rw [b_176_0]
  by_cases c1 : ¬ x1 = 6
  · rw [if_pos c1, if_pos c1]
    rw [b_176_15]
    rw [c_171]
    simp only [am_ans_some]
    rw [b_176_22]
    by_cases c2 : ¬ (x1 < 0) ∧ (¬ (2 < x1))
    · rw [if_pos c2, if_neg bn1, if_pos c2]
      rw [b_176_25]
      rw [c_177]
      simp only [am_ans_some]
      rw [b_176_30]
      by_cases c3 : ¬ (x2 < 0) ∧ (¬ ((M 205 8) ≤ x2))
      · rw [if_pos c3, if_neg bn1, if_pos c3]
        rw [b_176_33]
        by_cases c4 : ¬ x1 = 1
        · rw [if_pos c4, if_pos c4]
          rw [b_176_47]
          rw [b_176_49]
          rw [c_171]
          simp only [am_ans_some]
          rw [b_176_52]
          by_cases c5 : ¬ (x3 < 0) ∧ (¬ (9 < x3))
          · rw [if_pos c5, if_neg bn1, if_pos c5]
            rw [b_176_55]
            rw [b_176_60]
          · rw [if_neg c5, if_pos rfl, if_neg c5]
            rw [b_176_59]
            rw [b_176_60]
        · rw [if_neg c4, if_neg c4]
          rw [b_176_41]
          rw [b_176_49]
          rw [c_171]
          simp only [am_ans_some]
          rw [b_176_52]
          by_cases c6 : ¬ (x3 < 0) ∧ (¬ (999 < x3))
          · rw [if_pos c6, if_neg bn1, if_pos c6]
            rw [b_176_55]
            rw [b_176_60]
          · rw [if_neg c6, if_pos rfl, if_neg c6]
            rw [b_176_59]
            rw [b_176_60]
      · rw [if_neg c3, if_pos rfl, if_neg c3]
        rw [b_176_59]
        rw [b_176_60]
    · rw [if_neg c2, if_pos rfl, if_neg c2]
      rw [b_176_61]
      rw [c_171]
      simp only [am_ans_some]
      rw [b_176_68]
      by_cases c7 : ¬ (x1 < 3) ∧ (¬ (4 < x1))
      · rw [if_pos c7, if_neg bn1, if_pos c7]
        rw [b_176_71]
        rw [c_178]
        simp only [am_ans_some]
        rw [b_176_76]
        by_cases c8 : ¬ (x2 < 0) ∧ (¬ ((M 205 9) ≤ x2))
        · rw [if_pos c8, if_neg bn1, if_pos c8]
          rw [b_176_79]
          by_cases c9 : ¬ x1 = 3
          · rw [if_pos c9, if_pos c9]
            rw [b_176_92]
            rw [b_176_95]
            rw [c_171]
            simp only [am_ans_some]
            rw [b_176_98]
            by_cases c10 : ¬ (x3 < 1) ∧ (¬ (999 < x3))
            · rw [if_pos c10, if_neg bn1, if_pos c10]
              rw [b_176_101]
              rw [b_176_106]
            · rw [if_neg c10, if_pos rfl, if_neg c10]
              rw [b_176_105]
              rw [b_176_106]
          · rw [if_neg c9, if_neg c9]
            rw [b_176_87]
            rw [b_176_95]
            rw [c_171]
            simp only [am_ans_some]
            rw [b_176_98]
            by_cases c11 : ¬ (x3 < 1) ∧ (¬ (99 < x3))
            · rw [if_pos c11, if_neg bn1, if_pos c11]
              rw [b_176_101]
              rw [b_176_106]
            · rw [if_neg c11, if_pos rfl, if_neg c11]
              rw [b_176_105]
              rw [b_176_106]
        · rw [if_neg c8, if_pos rfl, if_neg c8]
          rw [b_176_105]
          rw [b_176_106]
      · rw [if_neg c7, if_pos rfl, if_neg c7]
        rw [b_176_107]
        by_cases c12 : ¬ x1 = 5
        · rw [if_pos c12, if_pos c12]
          rw [b_176_136]
          rw [b_176_137]
        · rw [if_neg c12, if_neg c12]
          rw [b_176_112]
          rw [c_179]
          simp only [am_ans_some]
          rw [b_176_117]
          by_cases c13 : ¬ (x2 < 0) ∧ (¬ ((M 205 10) ≤ x2))
          · rw [if_pos c13, if_neg bn1, if_pos c13]
            rw [b_176_120]
            rw [c_171]
            simp only [am_ans_some]
            rw [b_176_129]
            by_cases c14 : ¬ (x3 < 0) ∧ (¬ (9999 < x3))
            · rw [if_pos c14, if_neg bn1, if_pos c14]
              rw [b_176_132]
              rw [b_176_137]
            · rw [if_neg c14, if_pos rfl, if_neg c14]
              rw [b_176_136]
              rw [b_176_137]
          · rw [if_neg c13, if_pos rfl, if_neg c13]
            rw [b_176_136]
            rw [b_176_137]
  · rw [if_neg c1, if_neg c1]
    rw [b_176_6]
    rw [c_171]
    simp only [am_ans_some]
    rw [b_176_14 rok_ite]
-- isRuined(I)Z
set_option maxRecDepth 20000 in
theorem c_221 {d nS : Nat} {x1 : Int32} {M : am_M} {Q : Option Value → am_H → Prop} (p1 : vp_in (46 + x1) 136) : am_Wp d 221 0 [.ref 205, .int x1] [] (hp nS M) Q = Q (some (.int (if ¬ (¬ (M 206 (46 + x1).toNatClampNeg) = 1) then 1 else 0))) (hp nS M) := by
  rw [b_221_0 p1]
  by_cases c1 : ¬ (M 206 (46 + x1).toNatClampNeg) = 1
  · rw [if_pos c1]
    rw [b_221_17]
    rw [b_221_18]
    rw [if_neg (fun q => q c1)]
  · rw [if_neg c1]
    rw [b_221_13]
    rw [b_221_18]
    rw [if_pos c1]
-- canTrade(III)Z
set_option maxRecDepth 20000 in
theorem c_220 {d nS : Nat} {x1 x2 x3 : Int32} {M : am_M} {Q : Option Value → am_H → Prop} (p1 : (¬ (x2 < 0) ∧ (¬ ((M 205 10) ≤ x2))) → (¬ (x3 < 0) ∧ (¬ ((M 205 9) ≤ x3))) → vp_in (46 + x2) 136) (p2 : (¬ (x2 < 0) ∧ (¬ ((M 205 10) ≤ x2))) → (¬ (x3 < 0) ∧ (¬ ((M 205 9) ≤ x3))) → ¬ (¬ (¬ (M 206 (46 + x2).toNatClampNeg) = 1)) → (¬ x1 = 0) → vp_in ((56 + (8 * x2)) + x3) 136) (p3 : (¬ (x2 < 0) ∧ (¬ ((M 205 10) ≤ x2))) → (¬ (x3 < 0) ∧ (¬ ((M 205 9) ≤ x3))) → ¬ (¬ (¬ (M 206 (46 + x2).toNatClampNeg) = 1)) → ¬ (¬ x1 = 0) → vp_in (36 + x2) 136) (p4 : (¬ (x2 < 0) ∧ (¬ ((M 205 10) ≤ x2))) → (¬ (x3 < 0) ∧ (¬ ((M 205 9) ≤ x3))) → ¬ (¬ (¬ (M 206 (46 + x2).toNatClampNeg) = 1)) → ¬ (¬ x1 = 0) → vp_in (28 + x3) 136) (p5 : (¬ (x2 < 0) ∧ (¬ ((M 205 10) ≤ x2))) → (¬ (x3 < 0) ∧ (¬ ((M 205 9) ≤ x3))) → ¬ (¬ (¬ (M 206 (46 + x2).toNatClampNeg) = 1)) → ¬ (¬ x1 = 0) → ¬ ((M 206 (36 + x2).toNatClampNeg) < (M 206 (28 + x3).toNatClampNeg)) → vp_in ((56 + (8 * x2)) + x3) 136) : am_Wp (d + 1) 220 0 [.ref 205, .int x1, .int x2, .int x3] [] (hp nS M) Q = Q (some (.int (if (¬ (x2 < 0) ∧ (¬ ((M 205 10) ≤ x2))) ∧ ((¬ (x3 < 0) ∧ (¬ ((M 205 9) ≤ x3))) ∧ (¬ (¬ (¬ (M 206 (46 + x2).toNatClampNeg) = 1)) ∧ (((¬ x1 = 0) ∧ (¬ ((M 206 ((56 + (8 * x2)) + x3).toNatClampNeg) ≤ 0))) ∨ (¬ (¬ x1 = 0) ∧ (¬ ((M 206 (36 + x2).toNatClampNeg) < (M 206 (28 + x3).toNatClampNeg)) ∧ (¬ (99 ≤ (M 206 ((56 + (8 * x2)) + x3).toNatClampNeg)))))))) then 1 else 0))) (hp nS M) := by
  rw [b_220_0]
  rw [c_179]
  simp only [am_ans_some]
  rw [b_220_5]
  by_cases c1 : ¬ (x2 < 0) ∧ (¬ ((M 205 10) ≤ x2))
  · rw [if_pos c1, if_neg bn1]
    rw [b_220_8]
    rw [c_178]
    simp only [am_ans_some]
    rw [b_220_13]
    by_cases c2 : ¬ (x3 < 0) ∧ (¬ ((M 205 9) ≤ x3))
    · rw [if_pos c2, if_neg bn1]
      rw [b_220_16]
      rw [c_221 (p1 c1 c2)]
      simp only [am_ans_some]
      rw [b_220_21]
      by_cases c3 : ¬ (¬ (M 206 (46 + x2).toNatClampNeg) = 1)
      · rw [if_pos c3, if_neg bn1]
        rw [b_220_24]
        rw [if_neg (fun q => (fun q => (fun q => q.1 c3) q.2) q.2)]
      · rw [if_neg c3, if_pos rfl]
        rw [b_220_26]
        by_cases c4 : ¬ x1 = 0
        · rw [if_pos c4]
          rw [b_220_73]
          rw [c_173]
          simp only [am_ans_some]
          rw [b_220_83 (p2 c1 c2 c3 c4)]
          by_cases c5 : (M 206 ((56 + (8 * x2)) + x3).toNatClampNeg) ≤ 0
          · rw [if_pos c5]
            rw [b_220_91]
            rw [b_220_92]
            rw [if_neg (fun q => (fun q => (fun q => (fun q => q.elim (fun q => (fun q => q c5) q.2) (fun q => q.1 c4)) q.2) q.2) q.2)]
          · rw [if_neg c5]
            rw [b_220_87]
            rw [b_220_92]
            rw [if_pos ⟨c1, ⟨c2, ⟨c3, (Or.inl ⟨c4, c5⟩)⟩⟩⟩]
        · rw [if_neg c4]
          rw [b_220_30 (p3 c1 c2 c3 c4) (p4 c1 c2 c3 c4)]
          by_cases c6 : (M 206 (36 + x2).toNatClampNeg) < (M 206 (28 + x3).toNatClampNeg)
          · rw [if_pos c6]
            rw [b_220_71]
            rw [b_220_72]
            rw [if_neg (fun q => (fun q => (fun q => (fun q => q.elim (fun q => c4 q.1) (fun q => (fun q => q.1 c6) q.2)) q.2) q.2) q.2)]
          · rw [if_neg c6]
            rw [b_220_51]
            rw [c_173]
            simp only [am_ans_some]
            rw [b_220_61 (p5 c1 c2 c3 c4 c6)]
            by_cases c7 : 99 ≤ (M 206 ((56 + (8 * x2)) + x3).toNatClampNeg)
            · rw [if_pos c7]
              rw [b_220_71]
              rw [b_220_72]
              rw [if_neg (fun q => (fun q => (fun q => (fun q => q.elim (fun q => c4 q.1) (fun q => (fun q => (fun q => q c7) q.2) q.2)) q.2) q.2) q.2)]
            · rw [if_neg c7]
              rw [b_220_67]
              rw [b_220_72]
              rw [if_pos ⟨c1, ⟨c2, ⟨c3, (Or.inr ⟨c4, ⟨c6, c7⟩⟩)⟩⟩⟩]
    · rw [if_neg c2, if_pos rfl]
      rw [b_220_24]
      rw [if_neg (fun q => (fun q => c2 q.1) q.2)]
  · rw [if_neg c1, if_pos rfl]
    rw [b_220_24]
    rw [if_neg (fun q => c1 q.1)]
-- isLost(I)Z
set_option maxRecDepth 20000 in
theorem c_222 {d nS : Nat} {x1 : Int32} {M : am_M} {Q : Option Value → am_H → Prop} (p1 : vp_in (16 + x1) 136) : am_Wp d 222 0 [.ref 205, .int x1] [] (hp nS M) Q = Q (some (.int (if ¬ (¬ (M 206 (16 + x1).toNatClampNeg) = 1) then 1 else 0))) (hp nS M) := by
  rw [b_222_0 p1]
  by_cases c1 : ¬ (M 206 (16 + x1).toNatClampNeg) = 1
  · rw [if_pos c1]
    rw [b_222_17]
    rw [b_222_18]
    rw [if_neg (fun q => q c1)]
  · rw [if_neg c1]
    rw [b_222_13]
    rw [b_222_18]
    rw [if_pos c1]
-- canAct(III)Z
set_option maxRecDepth 20000 in
theorem c_219 {d nS : Nat} {x1 x2 x3 : Int32} {M : am_M} {Q : Option Value → am_H → Prop} (p1 : (x1 = 0) → (¬ (x2 < 0) ∧ (¬ ((M 205 10) ≤ x2))) → (¬ (x3 < 0) ∧ (¬ ((M 205 9) ≤ x3))) → vp_in (46 + x2) 136) (p2 : (x1 = 0) → (¬ (x2 < 0) ∧ (¬ ((M 205 10) ≤ x2))) → (¬ (x3 < 0) ∧ (¬ ((M 205 9) ≤ x3))) → ¬ (¬ (¬ (M 206 (46 + x2).toNatClampNeg) = 1)) → (¬ x1 = 0) → vp_in ((56 + (8 * x2)) + x3) 136) (p3 : (x1 = 0) → (¬ (x2 < 0) ∧ (¬ ((M 205 10) ≤ x2))) → (¬ (x3 < 0) ∧ (¬ ((M 205 9) ≤ x3))) → ¬ (¬ (¬ (M 206 (46 + x2).toNatClampNeg) = 1)) → ¬ (¬ x1 = 0) → vp_in (36 + x2) 136) (p4 : (x1 = 0) → (¬ (x2 < 0) ∧ (¬ ((M 205 10) ≤ x2))) → (¬ (x3 < 0) ∧ (¬ ((M 205 9) ≤ x3))) → ¬ (¬ (¬ (M 206 (46 + x2).toNatClampNeg) = 1)) → ¬ (¬ x1 = 0) → vp_in (28 + x3) 136) (p5 : (x1 = 0) → (¬ (x2 < 0) ∧ (¬ ((M 205 10) ≤ x2))) → (¬ (x3 < 0) ∧ (¬ ((M 205 9) ≤ x3))) → ¬ (¬ (¬ (M 206 (46 + x2).toNatClampNeg) = 1)) → ¬ (¬ x1 = 0) → ¬ ((M 206 (36 + x2).toNatClampNeg) < (M 206 (28 + x3).toNatClampNeg)) → vp_in ((56 + (8 * x2)) + x3) 136) (p6 : ¬ (x1 = 0) → (¬ x1 = 1) → (¬ x1 = 2) → ¬ (¬ x1 = 3) → (¬ (x2 < 0) ∧ (¬ ((M 205 8) ≤ x2))) → vp_in (16 + x2) 136) (p7 : ¬ (x1 = 0) → (¬ x1 = 1) → ¬ (¬ x1 = 2) → (¬ (x2 < 0) ∧ (¬ ((M 205 8) ≤ x2))) → vp_in (22 + x2) 136) (p8 : ¬ (x1 = 0) → (¬ x1 = 1) → ¬ (¬ x1 = 2) → (¬ (x2 < 0) ∧ (¬ ((M 205 8) ≤ x2))) → ¬ ((M 206 (22 + x2).toNatClampNeg) < 9) → ¬ (¬ x1 = 3) → (¬ (x2 < 0) ∧ (¬ ((M 205 8) ≤ x2))) → vp_in (16 + x2) 136) (p9 : ¬ (x1 = 0) → (¬ x1 = 1) → ¬ (¬ x1 = 2) → ¬ (¬ (x2 < 0) ∧ (¬ ((M 205 8) ≤ x2))) → ¬ (¬ x1 = 3) → (¬ (x2 < 0) ∧ (¬ ((M 205 8) ≤ x2))) → vp_in (16 + x2) 136) (p10 : ¬ (x1 = 0) → ¬ (¬ x1 = 1) → (¬ (x2 < 0) ∧ (¬ ((M 205 10) ≤ x2))) → (¬ (x3 < 0) ∧ (¬ ((M 205 9) ≤ x3))) → vp_in (46 + x2) 136) (p11 : ¬ (x1 = 0) → ¬ (¬ x1 = 1) → (¬ (x2 < 0) ∧ (¬ ((M 205 10) ≤ x2))) → (¬ (x3 < 0) ∧ (¬ ((M 205 9) ≤ x3))) → ¬ (¬ (¬ (M 206 (46 + x2).toNatClampNeg) = 1)) → (¬ x1 = 0) → vp_in ((56 + (8 * x2)) + x3) 136) (p12 : ¬ (x1 = 0) → ¬ (¬ x1 = 1) → (¬ (x2 < 0) ∧ (¬ ((M 205 10) ≤ x2))) → (¬ (x3 < 0) ∧ (¬ ((M 205 9) ≤ x3))) → ¬ (¬ (¬ (M 206 (46 + x2).toNatClampNeg) = 1)) → ¬ (¬ x1 = 0) → vp_in (36 + x2) 136) (p13 : ¬ (x1 = 0) → ¬ (¬ x1 = 1) → (¬ (x2 < 0) ∧ (¬ ((M 205 10) ≤ x2))) → (¬ (x3 < 0) ∧ (¬ ((M 205 9) ≤ x3))) → ¬ (¬ (¬ (M 206 (46 + x2).toNatClampNeg) = 1)) → ¬ (¬ x1 = 0) → vp_in (28 + x3) 136) (p14 : ¬ (x1 = 0) → ¬ (¬ x1 = 1) → (¬ (x2 < 0) ∧ (¬ ((M 205 10) ≤ x2))) → (¬ (x3 < 0) ∧ (¬ ((M 205 9) ≤ x3))) → ¬ (¬ (¬ (M 206 (46 + x2).toNatClampNeg) = 1)) → ¬ (¬ x1 = 0) → ¬ ((M 206 (36 + x2).toNatClampNeg) < (M 206 (28 + x3).toNatClampNeg)) → vp_in ((56 + (8 * x2)) + x3) 136) : am_Wp (d + 2) 219 0 [.ref 205, .int x1, .int x2, .int x3] [] (hp nS M) Q = Q (some (.int (if x1 = 0 then (if (¬ (x2 < 0) ∧ (¬ ((M 205 10) ≤ x2))) ∧ ((¬ (x3 < 0) ∧ (¬ ((M 205 9) ≤ x3))) ∧ (¬ (¬ (¬ (M 206 (46 + x2).toNatClampNeg) = 1)) ∧ (((¬ x1 = 0) ∧ (¬ ((M 206 ((56 + (8 * x2)) + x3).toNatClampNeg) ≤ 0))) ∨ (¬ (¬ x1 = 0) ∧ (¬ ((M 206 (36 + x2).toNatClampNeg) < (M 206 (28 + x3).toNatClampNeg)) ∧ (¬ (99 ≤ (M 206 ((56 + (8 * x2)) + x3).toNatClampNeg)))))))) then 1 else 0) else (if ¬ x1 = 1 then (if ¬ x1 = 2 then (if ¬ x1 = 3 then 0 else (if ¬ (x2 < 0) ∧ (¬ ((M 205 8) ≤ x2)) then (if ¬ (¬ (M 206 (16 + x2).toNatClampNeg) = 1) then 1 else 0) else 0)) else (if ¬ (x2 < 0) ∧ (¬ ((M 205 8) ≤ x2)) then (if (M 206 (22 + x2).toNatClampNeg) < 9 then 1 else (if ¬ x1 = 3 then 0 else (if ¬ (x2 < 0) ∧ (¬ ((M 205 8) ≤ x2)) then (if ¬ (¬ (M 206 (16 + x2).toNatClampNeg) = 1) then 1 else 0) else 0))) else (if ¬ x1 = 3 then 0 else (if ¬ (x2 < 0) ∧ (¬ ((M 205 8) ≤ x2)) then (if ¬ (¬ (M 206 (16 + x2).toNatClampNeg) = 1) then 1 else 0) else 0)))) else (if (¬ (x2 < 0) ∧ (¬ ((M 205 10) ≤ x2))) ∧ ((¬ (x3 < 0) ∧ (¬ ((M 205 9) ≤ x3))) ∧ (¬ (¬ (¬ (M 206 (46 + x2).toNatClampNeg) = 1)) ∧ (((¬ x1 = 0) ∧ (¬ ((M 206 ((56 + (8 * x2)) + x3).toNatClampNeg) ≤ 0))) ∨ (¬ (¬ x1 = 0) ∧ (¬ ((M 206 (36 + x2).toNatClampNeg) < (M 206 (28 + x3).toNatClampNeg)) ∧ (¬ (99 ≤ (M 206 ((56 + (8 * x2)) + x3).toNatClampNeg)))))))) then 1 else 0))))) (hp nS M) := by
  rw [b_219_0]
  by_cases c1 : x1 = 0
  · rw [if_pos c1, if_pos c1]
    rw [b_219_9]
    rw [c_220 (p1 c1) (p2 c1) (p3 c1) (p4 c1) (p5 c1)]
    simp only [am_ans_some]
    rw [b_219_16 rok_ite]
  · rw [if_neg c1, if_neg c1]
    rw [b_219_4]
    by_cases c2 : ¬ x1 = 1
    · rw [if_pos c2, if_pos c2]
      rw [b_219_17]
      by_cases c3 : ¬ x1 = 2
      · rw [if_pos c3, if_pos c3]
        rw [b_219_44]
        by_cases c4 : ¬ x1 = 3
        · rw [if_pos c4, if_pos c4]
          rw [b_219_69]
          rw [b_219_70]
        · rw [if_neg c4, if_neg c4]
          rw [b_219_49]
          rw [c_177]
          simp only [am_ans_some]
          rw [b_219_54]
          by_cases c5 : ¬ (x2 < 0) ∧ (¬ ((M 205 8) ≤ x2))
          · rw [if_pos c5, if_neg bn1, if_pos c5]
            rw [b_219_57]
            rw [c_222 (p6 c1 c2 c3 c4 c5)]
            simp only [am_ans_some]
            rw [b_219_62]
            by_cases c6 : ¬ (¬ (M 206 (16 + x2).toNatClampNeg) = 1)
            · rw [if_pos c6, if_neg bn1, if_pos c6]
              rw [b_219_65]
              rw [b_219_70]
            · rw [if_neg c6, if_pos rfl, if_neg c6]
              rw [b_219_69]
              rw [b_219_70]
          · rw [if_neg c5, if_pos rfl, if_neg c5]
            rw [b_219_69]
            rw [b_219_70]
      · rw [if_neg c3, if_neg c3]
        rw [b_219_22]
        rw [c_177]
        simp only [am_ans_some]
        rw [b_219_27]
        by_cases c7 : ¬ (x2 < 0) ∧ (¬ ((M 205 8) ≤ x2))
        · rw [if_pos c7, if_neg bn1, if_pos c7]
          rw [b_219_30 (p7 c1 c2 c3 c7)]
          by_cases c8 : (M 206 (22 + x2).toNatClampNeg) < 9
          · rw [if_pos c8, if_pos c8]
            rw [b_219_65]
            rw [b_219_70]
          · rw [if_neg c8, if_neg c8]
            rw [b_219_44]
            by_cases c9 : ¬ x1 = 3
            · rw [if_pos c9, if_pos c9]
              rw [b_219_69]
              rw [b_219_70]
            · rw [if_neg c9, if_neg c9]
              rw [b_219_49]
              rw [c_177]
              simp only [am_ans_some]
              rw [b_219_54]
              by_cases c10 : ¬ (x2 < 0) ∧ (¬ ((M 205 8) ≤ x2))
              · rw [if_pos c10, if_neg bn1, if_pos c10]
                rw [b_219_57]
                rw [c_222 (p8 c1 c2 c3 c7 c8 c9 c10)]
                simp only [am_ans_some]
                rw [b_219_62]
                by_cases c11 : ¬ (¬ (M 206 (16 + x2).toNatClampNeg) = 1)
                · rw [if_pos c11, if_neg bn1, if_pos c11]
                  rw [b_219_65]
                  rw [b_219_70]
                · rw [if_neg c11, if_pos rfl, if_neg c11]
                  rw [b_219_69]
                  rw [b_219_70]
              · rw [if_neg c10, if_pos rfl, if_neg c10]
                rw [b_219_69]
                rw [b_219_70]
        · rw [if_neg c7, if_pos rfl, if_neg c7]
          rw [b_219_44]
          by_cases c12 : ¬ x1 = 3
          · rw [if_pos c12, if_pos c12]
            rw [b_219_69]
            rw [b_219_70]
          · rw [if_neg c12, if_neg c12]
            rw [b_219_49]
            rw [c_177]
            simp only [am_ans_some]
            rw [b_219_54]
            by_cases c13 : ¬ (x2 < 0) ∧ (¬ ((M 205 8) ≤ x2))
            · rw [if_pos c13, if_neg bn1, if_pos c13]
              rw [b_219_57]
              rw [c_222 (p9 c1 c2 c3 c7 c12 c13)]
              simp only [am_ans_some]
              rw [b_219_62]
              by_cases c14 : ¬ (¬ (M 206 (16 + x2).toNatClampNeg) = 1)
              · rw [if_pos c14, if_neg bn1, if_pos c14]
                rw [b_219_65]
                rw [b_219_70]
              · rw [if_neg c14, if_pos rfl, if_neg c14]
                rw [b_219_69]
                rw [b_219_70]
            · rw [if_neg c13, if_pos rfl, if_neg c13]
              rw [b_219_69]
              rw [b_219_70]
    · rw [if_neg c2, if_neg c2]
      rw [b_219_9]
      rw [c_220 (p10 c1 c2) (p11 c1 c2) (p12 c1 c2) (p13 c1 c2) (p14 c1 c2)]
      simp only [am_ans_some]
      rw [b_219_16 rok_ite]
-- isSought(I)V
set_option maxRecDepth 20000 in
theorem c_227 {d nS : Nat} {x1 : Int32} {M : am_M} {Q : Option Value → am_H → Prop} (p1 : vp_in (16 + x1) 136) (p2 : vp_in (4 + x1) 136) : am_Wp d 227 0 [.ref 205, .int x1] [] (hp nS M) Q = Q none (hp nS (am_up (am_up M 206 (16 + x1).toNatClampNeg 0) 206 (4 + x1).toNatClampNeg 0)) := by
  rw [b_227_0 p1 p2]
-- lettersOf(I)I
set_option maxRecDepth 20000 in
theorem c_277 {d nS : Nat} {x1 : Int32} {M : am_M} {Q : Option Value → am_H → Prop} (p1 : (¬ (x1 / 100) = 0) → vp_in (x1 / 100) 28) (p2 : (¬ (x1 / 100) = 0) → (¬ (x1 - x1 / 100 * 100) = 0) → (20 ≤ (x1 - x1 / 100 * 100)) → vp_in (18 + ((x1 - x1 / 100 * 100) / 10)) 28) (p3 : (¬ (x1 / 100) = 0) → (¬ (x1 - x1 / 100 * 100) = 0) → (20 ≤ (x1 - x1 / 100 * 100)) → (¬ ((x1 - x1 / 100 * 100) - (x1 - x1 / 100 * 100) / 10 * 10) = 0) → vp_in ((x1 - x1 / 100 * 100) - (x1 - x1 / 100 * 100) / 10 * 10) 28) (p4 : (¬ (x1 / 100) = 0) → (¬ (x1 - x1 / 100 * 100) = 0) → ¬ (20 ≤ (x1 - x1 / 100 * 100)) → vp_in (x1 - x1 / 100 * 100) 28) (p5 : ¬ (¬ (x1 / 100) = 0) → (¬ (x1 - x1 / 100 * 100) = 0) → (20 ≤ (x1 - x1 / 100 * 100)) → vp_in (18 + ((x1 - x1 / 100 * 100) / 10)) 28) (p6 : ¬ (¬ (x1 / 100) = 0) → (¬ (x1 - x1 / 100 * 100) = 0) → (20 ≤ (x1 - x1 / 100 * 100)) → (¬ ((x1 - x1 / 100 * 100) - (x1 - x1 / 100 * 100) / 10 * 10) = 0) → vp_in ((x1 - x1 / 100 * 100) - (x1 - x1 / 100 * 100) / 10 * 10) 28) (p7 : ¬ (¬ (x1 / 100) = 0) → (¬ (x1 - x1 / 100 * 100) = 0) → ¬ (20 ≤ (x1 - x1 / 100 * 100)) → vp_in (x1 - x1 / 100 * 100) 28) : am_Wp d 277 0 [.ref 205, .int x1, .retAddr 0, .retAddr 0, .retAddr 0] [] (hp nS M) Q = Q (some (.int (if ¬ (x1 / 100) = 0 then (if ¬ (x1 - x1 / 100 * 100) = 0 then (if 20 ≤ (x1 - x1 / 100 * 100) then (if ¬ ((x1 - x1 / 100 * 100) - (x1 - x1 / 100 * 100) / 10 * 10) = 0 then ((((M 231 (x1 / 100).toNatClampNeg) + 7) + (M 231 (18 + ((x1 - x1 / 100 * 100) / 10)).toNatClampNeg)) + (M 231 ((x1 - x1 / 100 * 100) - (x1 - x1 / 100 * 100) / 10 * 10).toNatClampNeg)) else ((((M 231 (x1 / 100).toNatClampNeg) + 7) + (M 231 (18 + ((x1 - x1 / 100 * 100) / 10)).toNatClampNeg)) + 0)) else (((M 231 (x1 / 100).toNatClampNeg) + 7) + (M 231 (x1 - x1 / 100 * 100).toNatClampNeg))) else (if ¬ (x1 / 100) = 0 then ((M 231 (x1 / 100).toNatClampNeg) + 7) else (M 231 0))) else (if ¬ (x1 - x1 / 100 * 100) = 0 then (if 20 ≤ (x1 - x1 / 100 * 100) then (if ¬ ((x1 - x1 / 100 * 100) - (x1 - x1 / 100 * 100) / 10 * 10) = 0 then ((0 + (M 231 (18 + ((x1 - x1 / 100 * 100) / 10)).toNatClampNeg)) + (M 231 ((x1 - x1 / 100 * 100) - (x1 - x1 / 100 * 100) / 10 * 10).toNatClampNeg)) else ((0 + (M 231 (18 + ((x1 - x1 / 100 * 100) / 10)).toNatClampNeg)) + 0)) else (0 + (M 231 (x1 - x1 / 100 * 100).toNatClampNeg))) else (if ¬ (x1 / 100) = 0 then 0 else (M 231 0)))))) (hp nS M) := by
  rw [b_277_0]
  by_cases c1 : ¬ (x1 / 100) = 0
  · rw [if_pos c1, if_pos c1]
    rw [b_277_18 (p1 c1)]
    rw [b_277_27]
    by_cases c2 : ¬ (x1 - x1 / 100 * 100) = 0
    · rw [if_pos c2, if_pos c2]
      rw [b_277_49]
      by_cases c3 : 20 ≤ (x1 - x1 / 100 * 100)
      · rw [if_pos c3, if_pos c3]
        rw [b_277_65 (p2 c1 c2 c3)]
        by_cases c4 : ¬ ((x1 - x1 / 100 * 100) - (x1 - x1 / 100 * 100) / 10 * 10) = 0
        · rw [if_pos c4, if_pos c4]
          rw [b_277_91 (p3 c1 c2 c3 c4)]
          rw [b_277_100]
        · rw [if_neg c4, if_neg c4]
          rw [b_277_87]
          rw [b_277_100]
      · rw [if_neg c3, if_neg c3]
        rw [b_277_55 (p4 c1 c2 c3)]
    · rw [if_neg c2, if_neg c2]
      rw [b_277_33]
      by_cases c5 : ¬ (x1 / 100) = 0
      · rw [if_pos c5, if_pos c5]
        rw [b_277_46]
        rw [b_277_48]
      · rw [if_neg c5, if_neg c5]
        rw [b_277_37]
        rw [b_277_48]
  · rw [if_neg c1, if_neg c1]
    rw [b_277_14]
    rw [b_277_27]
    by_cases c6 : ¬ (x1 - x1 / 100 * 100) = 0
    · rw [if_pos c6, if_pos c6]
      rw [b_277_49]
      by_cases c7 : 20 ≤ (x1 - x1 / 100 * 100)
      · rw [if_pos c7, if_pos c7]
        rw [b_277_65 (p5 c1 c6 c7)]
        by_cases c8 : ¬ ((x1 - x1 / 100 * 100) - (x1 - x1 / 100 * 100) / 10 * 10) = 0
        · rw [if_pos c8, if_pos c8]
          rw [b_277_91 (p6 c1 c6 c7 c8)]
          rw [b_277_100]
        · rw [if_neg c8, if_neg c8]
          rw [b_277_87]
          rw [b_277_100]
      · rw [if_neg c7, if_neg c7]
        rw [b_277_55 (p7 c1 c6 c7)]
    · rw [if_neg c6, if_neg c6]
      rw [b_277_33]
      by_cases c9 : ¬ (x1 / 100) = 0
      · rw [if_pos c9, if_pos c9]
        rw [b_277_46]
        rw [b_277_48]
      · rw [if_neg c9, if_neg c9]
        rw [b_277_37]
        rw [b_277_48]
-- apart(II)I
set_option maxRecDepth 20000 in
theorem c_263 {d nS : Nat} {x1 x2 : Int32} {M : am_M} {Q : Option Value → am_H → Prop} : am_Wp d 263 0 [.ref 205, .int x1, .int x2] [] (hp nS M) Q = Q (some (.int (if x1 ≤ x2 then (x2 - x1) else (x1 - x2)))) (hp nS M) := by
  rw [b_263_0]
  by_cases c1 : x1 ≤ x2
  · rw [if_pos c1, if_pos c1]
    rw [b_263_11]
    rw [b_263_14]
  · rw [if_neg c1, if_neg c1]
    rw [b_263_5]
    rw [b_263_14]
-- greater(II)I
set_option maxRecDepth 20000 in
theorem c_239 {d nS : Nat} {x1 x2 : Int32} {M : am_M} {Q : Option Value → am_H → Prop} : am_Wp d 239 0 [.ref 205, .int x1, .int x2] [] (hp nS M) Q = Q (some (.int (if x1 ≤ x2 then x2 else x1))) (hp nS M) := by
  rw [b_239_0]
  by_cases c1 : x1 ≤ x2
  · rw [if_pos c1, if_pos c1]
    rw [b_239_9]
    rw [b_239_10]
  · rw [if_neg c1, if_neg c1]
    rw [b_239_5]
    rw [b_239_10]
-- lesser(II)I
set_option maxRecDepth 20000 in
theorem c_225 {d nS : Nat} {x1 x2 : Int32} {M : am_M} {Q : Option Value → am_H → Prop} : am_Wp d 225 0 [.ref 205, .int x1, .int x2] [] (hp nS M) Q = Q (some (.int (if x2 ≤ x1 then x2 else x1))) (hp nS M) := by
  rw [b_225_0]
  by_cases c1 : x2 ≤ x1
  · rw [if_pos c1, if_pos c1]
    rw [b_225_9]
    rw [b_225_10]
  · rw [if_neg c1, if_neg c1]
    rw [b_225_5]
    rw [b_225_10]
-- notes(III)V
set_option maxRecDepth 20000 in
theorem c_226 {d nS : Nat} {x1 x2 x3 : Int32} {M : am_M} {Q : Option Value → am_H → Prop} (p1 : ¬ (¬ (M 205 7) = 0) → (¬ (M 206 2) = 150) → vp_in (4 * (M 206 2)) 600) (p2 : ¬ (¬ (M 205 7) = 0) → (¬ (M 206 2) = 150) → vp_in ((4 * (M 206 2)) + 1) 600) (p3 : ¬ (¬ (M 205 7) = 0) → (¬ (M 206 2) = 150) → vp_in ((4 * (M 206 2)) + 2) 600) (p4 : ¬ (¬ (M 205 7) = 0) → (¬ (M 206 2) = 150) → vp_in ((4 * (M 206 2)) + 3) 600) : am_Wp d 226 0 [.ref 205, .int x1, .int x2, .int x3, .retAddr 0] [] (hp nS M) Q = (if ¬ (M 205 7) = 0 then Q none (hp nS M) else (if ¬ (M 206 2) = 150 then Q none (hp nS (am_up (am_up (am_up (am_up (am_up M 211 (4 * (M 206 2)).toNatClampNeg (M 206 0)) 211 ((4 * (M 206 2)) + 1).toNatClampNeg x1) 211 ((4 * (M 206 2)) + 2).toNatClampNeg x2) 211 ((4 * (M 206 2)) + 3).toNatClampNeg x3) 206 2 (((am_up (am_up (am_up (am_up M 211 (4 * (M 206 2)).toNatClampNeg (M 206 0)) 211 ((4 * (M 206 2)) + 1).toNatClampNeg x1) 211 ((4 * (M 206 2)) + 2).toNatClampNeg x2) 211 ((4 * (M 206 2)) + 3).toNatClampNeg x3) 206 2) + 1))) else Q none (hp nS M))) := by
  rw [b_226_0]
  by_cases c1 : ¬ (M 205 7) = 0
  · rw [if_pos c1, if_pos c1]
    rw [b_226_19]
  · rw [if_neg c1, if_neg c1]
    rw [b_226_7]
    by_cases c2 : ¬ (M 206 2) = 150
    · rw [if_pos c2, if_pos c2]
      rw [b_226_20 (p1 c1 c2) (p2 c1 c2) (p3 c1 c2) (p4 c1 c2)]
    · rw [if_neg c2, if_neg c2]
      rw [b_226_19]
-- has(II)Z
set_option maxRecDepth 20000 in
theorem c_267 {d nS : Nat} {x1 x2 : Int32} {M : am_M} {Q : Option Value → am_H → Prop} : am_Wp d 267 0 [.ref 205, .int x1, .int x2] [] (hp nS M) Q = Q (some (.int (if ¬ (¬ ((x1 >>> (x2 &&& 31)) &&& 1) = 1) then 1 else 0))) (hp nS M) := by
  rw [b_267_0]
  by_cases c1 : ¬ ((x1 >>> (x2 &&& 31)) &&& 1) = 1
  · rw [if_pos c1]
    rw [b_267_13]
    rw [b_267_14]
    rw [if_neg (fun q => q c1)]
  · rw [if_neg c1]
    rw [b_267_9]
    rw [b_267_14]
    rw [if_pos c1]
-- canGo(II)Z
set_option maxRecDepth 20000 in
theorem c_282 {d nS : Nat} {x1 x2 : Int32} {M : am_M} {Q : Option Value → am_H → Prop} (p1 : ¬ (x1 = x2) → vp_in x1 8) : am_Wp (d + 1) 282 0 [.ref 205, .int x1, .int x2] [] (hp nS M) Q = Q (some (.int (if (x1 = x2) ∨ (¬ (¬ (((M 232 x1.toNatClampNeg) >>> (x2 &&& 31)) &&& 1) = 1)) then 1 else 0))) (hp nS M) := by
  rw [b_282_0]
  by_cases c1 : x1 = x2
  · rw [if_pos c1]
    rw [b_282_19]
    rw [b_282_24]
    rw [if_pos (Or.inl c1)]
  · rw [if_neg c1]
    rw [b_282_5 (p1 c1)]
    rw [c_267]
    simp only [am_ans_some]
    rw [b_282_16]
    by_cases c2 : ¬ (¬ (((M 232 x1.toNatClampNeg) >>> (x2 &&& 31)) &&& 1) = 1)
    · rw [if_pos c2, if_neg bn1]
      rw [b_282_19]
      rw [b_282_24]
      rw [if_pos (Or.inr c2)]
    · rw [if_neg c2, if_pos rfl]
      rw [b_282_23]
      rw [b_282_24]
      rw [if_neg (fun q => q.elim c1 c2)]
-- draw(I)I
set_option maxRecDepth 20000 in
theorem c_242 {d nS : Nat} {x1 : Int32} {M : am_M} {Q : Option Value → am_H → Prop} (p1 : ¬ x1 = 0) : am_Wp d 242 0 [.ref 205, .int x1] [] (hp nS M) Q = Q (some (.int (((((am_up M 206 1 ((1664525 * (M 206 1)) + 1013904223)) 206 1).toUInt32 >>> ((8 : Int32).toUInt32 &&& Int32.toUInt32 31)).toInt32) - ((((am_up M 206 1 ((1664525 * (M 206 1)) + 1013904223)) 206 1).toUInt32 >>> ((8 : Int32).toUInt32 &&& Int32.toUInt32 31)).toInt32) / x1 * x1))) (hp nS (am_up M 206 1 ((1664525 * (M 206 1)) + 1013904223))) := by
  rw [b_242_0 p1]
-- happens(I)Z
set_option maxRecDepth 20000 in
theorem c_241 {d nS : Nat} {x1 : Int32} {M : am_M} {Q : Option Value → am_H → Prop} (p1 : ((M 205 7) = 0) → ¬ (x1 ≤ 0) → ¬ 1000 = 0) : am_Wp (d + 1) 241 0 [.ref 205, .int x1] [] (hp nS M) Q = (if (M 205 7) = 0 then (if x1 ≤ 0 then Q (some (.int 0)) (hp nS M) else (if x1 ≤ (((((am_up M 206 1 ((1664525 * (M 206 1)) + 1013904223)) 206 1).toUInt32 >>> ((8 : Int32).toUInt32 &&& Int32.toUInt32 31)).toInt32) - ((((am_up M 206 1 ((1664525 * (M 206 1)) + 1013904223)) 206 1).toUInt32 >>> ((8 : Int32).toUInt32 &&& Int32.toUInt32 31)).toInt32) / 1000 * 1000) then Q (some (.int 0)) (hp nS (am_up M 206 1 ((1664525 * (M 206 1)) + 1013904223))) else Q (some (.int 1)) (hp nS (am_up M 206 1 ((1664525 * (M 206 1)) + 1013904223))))) else (if (2 * x1) < 1000 then Q (some (.int 0)) (hp nS M) else Q (some (.int 1)) (hp nS M))) := by
  rw [b_241_0]
  by_cases c1 : (M 205 7) = 0
  · rw [if_pos c1, if_pos c1]
    rw [b_241_24]
    by_cases c2 : x1 ≤ 0
    · rw [if_pos c2, if_pos c2]
      rw [b_241_43]
      rw [b_241_44]
    · rw [if_neg c2, if_neg c2]
      rw [b_241_28]
      rw [c_242 (p1 c1 c2)]
      simp only [am_ans_some]
      rw [b_241_35]
      by_cases c3 : x1 ≤ (((((am_up M 206 1 ((1664525 * (M 206 1)) + 1013904223)) 206 1).toUInt32 >>> ((8 : Int32).toUInt32 &&& Int32.toUInt32 31)).toInt32) - ((((am_up M 206 1 ((1664525 * (M 206 1)) + 1013904223)) 206 1).toUInt32 >>> ((8 : Int32).toUInt32 &&& Int32.toUInt32 31)).toInt32) / 1000 * 1000)
      · rw [if_pos c3, if_pos c3]
        rw [b_241_43]
        rw [b_241_44]
      · rw [if_neg c3, if_neg c3]
        rw [b_241_39]
        rw [b_241_44]
  · rw [if_neg c1, if_neg c1]
    rw [b_241_7]
    by_cases c4 : (2 * x1) < 1000
    · rw [if_pos c4, if_pos c4]
      rw [b_241_20]
      rw [b_241_44]
    · rw [if_neg c4, if_neg c4]
      rw [b_241_16]
      rw [b_241_44]
-- raw(I)I
set_option maxRecDepth 20000 in
theorem c_186 {d nS : Nat} {x1 : Int32} {M : am_M} {Q : Option Value → am_H → Prop} (p1 : ¬ ((M 205 15) ≤ x1) → vp_in x1 400) : am_Wp d 186 0 [.ref 205, .int x1] [] (hp nS M) Q = Q (some (.int (if (M 205 15) ≤ x1 then (-1) else (M 212 x1.toNatClampNeg)))) (hp nS M) := by
  rw [b_186_0]
  by_cases c1 : (M 205 15) ≤ x1
  · rw [if_pos c1, if_pos c1]
    rw [b_186_17]
    rw [b_186_18]
  · rw [if_neg c1, if_neg c1]
    rw [b_186_8 (p1 c1)]
    rw [b_186_18]
-- isLetter(I)Z
set_option maxRecDepth 20000 in
theorem c_187 {d nS : Nat} {x1 : Int32} {M : am_M} {Q : Option Value → am_H → Prop} : am_Wp (d + 1) 187 0 [.ref 205, .int x1] [] (hp nS M) Q = Q (some (.int (if (¬ (x1 < 97) ∧ (¬ (122 < x1))) ∨ (¬ (x1 < 65) ∧ (¬ (90 < x1))) then 1 else 0))) (hp nS M) := by
  rw [b_187_0]
  rw [c_171]
  simp only [am_ans_some]
  rw [b_187_9]
  by_cases c1 : ¬ (x1 < 97) ∧ (¬ (122 < x1))
  · rw [if_pos c1, if_pos bn1]
    rw [b_187_24]
    rw [b_187_29]
    rw [if_pos (Or.inl c1)]
  · rw [if_neg c1, if_neg bn0]
    rw [b_187_12]
    rw [c_171]
    simp only [am_ans_some]
    rw [b_187_21]
    by_cases c2 : ¬ (x1 < 65) ∧ (¬ (90 < x1))
    · rw [if_pos c2, if_neg bn1]
      rw [b_187_24]
      rw [b_187_29]
      rw [if_pos (Or.inr c2)]
    · rw [if_neg c2, if_pos rfl]
      rw [b_187_28]
      rw [b_187_29]
      rw [if_neg (fun q => q.elim c1 c2)]
-- isDigit(I)Z
set_option maxRecDepth 20000 in
theorem c_189 {d nS : Nat} {x1 : Int32} {M : am_M} {Q : Option Value → am_H → Prop} : am_Wp (d + 1) 189 0 [.ref 205, .int x1] [] (hp nS M) Q = Q (some (.int (if ¬ (x1 < 48) ∧ (¬ (57 < x1)) then 1 else 0))) (hp nS M) := by
  rw [b_189_0]
  rw [c_171]
  simp only [am_ans_some]
  rw [b_189_9 rok_ite]
-- isMarkSign(I)Z
set_option maxRecDepth 20000 in
theorem c_190 {d nS : Nat} {x1 : Int32} {M : am_M} {Q : Option Value → am_H → Prop} : am_Wp d 190 0 [.ref 205, .int x1] [] (hp nS M) Q = Q (some (.int (if (x1 = 59) ∨ ((x1 = 43) ∨ ((x1 = 45) ∨ ((x1 = 42) ∨ ((x1 = 47) ∨ ((x1 = 40) ∨ ((x1 = 41) ∨ ((x1 = 60) ∨ ((x1 = 61) ∨ (¬ (¬ x1 = 62)))))))))) then 1 else 0))) (hp nS M) := by
  rw [b_190_0]
  by_cases c1 : x1 = 59
  · rw [if_pos c1]
    rw [b_190_60]
    rw [b_190_65]
    rw [if_pos (Or.inl c1)]
  · rw [if_neg c1]
    rw [b_190_6]
    by_cases c2 : x1 = 43
    · rw [if_pos c2]
      rw [b_190_60]
      rw [b_190_65]
      rw [if_pos (Or.inr (Or.inl c2))]
    · rw [if_neg c2]
      rw [b_190_12]
      by_cases c3 : x1 = 45
      · rw [if_pos c3]
        rw [b_190_60]
        rw [b_190_65]
        rw [if_pos (Or.inr (Or.inr (Or.inl c3)))]
      · rw [if_neg c3]
        rw [b_190_18]
        by_cases c4 : x1 = 42
        · rw [if_pos c4]
          rw [b_190_60]
          rw [b_190_65]
          rw [if_pos (Or.inr (Or.inr (Or.inr (Or.inl c4))))]
        · rw [if_neg c4]
          rw [b_190_24]
          by_cases c5 : x1 = 47
          · rw [if_pos c5]
            rw [b_190_60]
            rw [b_190_65]
            rw [if_pos (Or.inr (Or.inr (Or.inr (Or.inr (Or.inl c5)))))]
          · rw [if_neg c5]
            rw [b_190_30]
            by_cases c6 : x1 = 40
            · rw [if_pos c6]
              rw [b_190_60]
              rw [b_190_65]
              rw [if_pos (Or.inr (Or.inr (Or.inr (Or.inr (Or.inr (Or.inl c6))))))]
            · rw [if_neg c6]
              rw [b_190_36]
              by_cases c7 : x1 = 41
              · rw [if_pos c7]
                rw [b_190_60]
                rw [b_190_65]
                rw [if_pos (Or.inr (Or.inr (Or.inr (Or.inr (Or.inr (Or.inr (Or.inl c7)))))))]
              · rw [if_neg c7]
                rw [b_190_42]
                by_cases c8 : x1 = 60
                · rw [if_pos c8]
                  rw [b_190_60]
                  rw [b_190_65]
                  rw [if_pos (Or.inr (Or.inr (Or.inr (Or.inr (Or.inr (Or.inr (Or.inr (Or.inl c8))))))))]
                · rw [if_neg c8]
                  rw [b_190_48]
                  by_cases c9 : x1 = 61
                  · rw [if_pos c9]
                    rw [b_190_60]
                    rw [b_190_65]
                    rw [if_pos (Or.inr (Or.inr (Or.inr (Or.inr (Or.inr (Or.inr (Or.inr (Or.inr (Or.inl c9)))))))))]
                  · rw [if_neg c9]
                    rw [b_190_54]
                    by_cases c10 : ¬ x1 = 62
                    · rw [if_pos c10]
                      rw [b_190_64]
                      rw [b_190_65]
                      rw [if_neg (fun q => q.elim c1 (fun q => q.elim c2 (fun q => q.elim c3 (fun q => q.elim c4 (fun q => q.elim c5 (fun q => q.elim c6 (fun q => q.elim c7 (fun q => q.elim c8 (fun q => q.elim c9 (fun q => q c10))))))))))]
                    · rw [if_neg c10]
                      rw [b_190_60]
                      rw [b_190_65]
                      rw [if_pos (Or.inr (Or.inr (Or.inr (Or.inr (Or.inr (Or.inr (Or.inr (Or.inr (Or.inr c10)))))))))]
-- isWord(I)Z
set_option maxRecDepth 20000 in
theorem c_192 {d nS : Nat} {x1 : Int32} {M : am_M} {Q : Option Value → am_H → Prop} : am_Wp d 192 0 [.ref 205, .int x1] [] (hp nS M) Q = Q (some (.int (if ¬ (¬ (M 205 18) = 2) ∧ (¬ (¬ (M 205 19) = x1)) then 1 else 0))) (hp nS M) := by
  rw [b_192_0]
  by_cases c1 : ¬ (M 205 18) = 2
  · rw [if_pos c1]
    rw [b_192_20]
    rw [b_192_21]
    rw [if_neg (fun q => q.1 c1)]
  · rw [if_neg c1]
    rw [b_192_8]
    by_cases c2 : ¬ (M 205 19) = x1
    · rw [if_pos c2]
      rw [b_192_20]
      rw [b_192_21]
      rw [if_neg (fun q => (fun q => q c2) q.2)]
    · rw [if_neg c2]
      rw [b_192_16]
      rw [b_192_21]
      rw [if_pos ⟨c1, c2⟩]
-- errs(I)I
set_option maxRecDepth 20000 in
theorem c_193 {d nS : Nat} {x1 : Int32} {M : am_M} {Q : Option Value → am_H → Prop} : am_Wp d 193 0 [.ref 205, .int x1] [] (hp nS M) Q = Q (some (.int (-1))) (hp nS (am_up (am_up M 205 33 x1) 205 34 ((am_up M 205 33 x1) 205 17))) := by
  rw [b_193_0]
-- isLineWord()Z
set_option maxRecDepth 20000 in
theorem c_205 {d nS : Nat} {M : am_M} {Q : Option Value → am_H → Prop} : am_Wp (d + 1) 205 0 [.ref 205] [] (hp nS M) Q = Q (some (.int (if ¬ (¬ (M 205 18) = 2) ∧ (¬ ((M 205 19) < 0) ∧ (¬ (2 < (M 205 19)))) then 1 else 0))) (hp nS M) := by
  rw [b_205_0]
  by_cases c1 : ¬ (M 205 18) = 2
  · rw [if_pos c1]
    rw [b_205_25]
    rw [b_205_26]
    rw [if_neg (fun q => q.1 c1)]
  · rw [if_neg c1]
    rw [b_205_8]
    rw [c_171]
    simp only [am_ans_some]
    rw [b_205_18]
    by_cases c2 : ¬ ((M 205 19) < 0) ∧ (¬ (2 < (M 205 19)))
    · rw [if_pos c2, if_neg bn1]
      rw [b_205_21]
      rw [b_205_26]
      rw [if_pos ⟨c1, c2⟩]
    · rw [if_neg c2, if_pos rfl]
      rw [b_205_25]
      rw [b_205_26]
      rw [if_neg (fun q => c2 q.2)]
-- isSign(I)Z
set_option maxRecDepth 20000 in
theorem c_199 {d nS : Nat} {x1 : Int32} {M : am_M} {Q : Option Value → am_H → Prop} : am_Wp d 199 0 [.ref 205, .int x1] [] (hp nS M) Q = Q (some (.int (if ¬ (¬ (M 205 18) = 4) ∧ (¬ (¬ (M 205 19) = x1)) then 1 else 0))) (hp nS M) := by
  rw [b_199_0]
  by_cases c1 : ¬ (M 205 18) = 4
  · rw [if_pos c1]
    rw [b_199_20]
    rw [b_199_21]
    rw [if_neg (fun q => q.1 c1)]
  · rw [if_neg c1]
    rw [b_199_8]
    by_cases c2 : ¬ (M 205 19) = x1
    · rw [if_pos c2]
      rw [b_199_20]
      rw [b_199_21]
      rw [if_neg (fun q => (fun q => q c2) q.2)]
    · rw [if_neg c2]
      rw [b_199_16]
      rw [b_199_21]
      rw [if_pos ⟨c1, c2⟩]
-- held(III)I
set_option maxRecDepth 20000 in
theorem c_238 {d nS : Nat} {x1 x2 x3 : Int32} {M : am_M} {Q : Option Value → am_H → Prop} : am_Wp d 238 0 [.ref 205, .int x1, .int x2, .int x3] [] (hp nS M) Q = Q (some (.int (if x2 ≤ x1 then (if x1 ≤ x3 then x1 else x3) else x2))) (hp nS M) := by
  rw [b_238_0]
  by_cases c1 : x2 ≤ x1
  · rw [if_pos c1, if_pos c1]
    rw [b_238_9]
    by_cases c2 : x1 ≤ x3
    · rw [if_pos c2, if_pos c2]
      rw [b_238_18]
      rw [b_238_19]
    · rw [if_neg c2, if_neg c2]
      rw [b_238_14]
      rw [b_238_19]
  · rw [if_neg c1, if_neg c1]
    rw [b_238_5]
    rw [b_238_19]
-- kindOfDeed()I
set_option maxRecDepth 20000 in
theorem c_197 {d nS : Nat} {M : am_M} {Q : Option Value → am_H → Prop} : am_Wp (d + 1) 197 0 [.ref 205] [] (hp nS M) Q = Q (some (.int (if ¬ (¬ (M 205 18) = 2) ∧ (¬ (¬ (M 205 19) = 11)) then 3 else (if ¬ (M 205 18) = 2 then (-1) else (if ¬ ((M 205 19) < 17) ∧ (¬ (19 < (M 205 19))) then ((M 205 19) - 17) else (-1)))))) (hp nS M) := by
  rw [b_197_0]
  rw [c_192]
  simp only [am_ans_some]
  rw [b_197_6]
  by_cases c1 : ¬ (¬ (M 205 18) = 2) ∧ (¬ (¬ (M 205 19) = 11))
  · rw [if_pos c1, if_neg bn1, if_pos c1]
    rw [b_197_9]
  · rw [if_neg c1, if_pos rfl, if_neg c1]
    rw [b_197_11]
    by_cases c2 : ¬ (M 205 18) = 2
    · rw [if_pos c2, if_pos c2]
      rw [b_197_44]
      rw [b_197_45]
    · rw [if_neg c2, if_neg c2]
      rw [b_197_19]
      rw [c_171]
      simp only [am_ans_some]
      rw [b_197_31]
      by_cases c3 : ¬ ((M 205 19) < 17) ∧ (¬ (19 < (M 205 19)))
      · rw [if_pos c3, if_neg bn1, if_pos c3]
        rw [b_197_34]
        rw [b_197_45]
      · rw [if_neg c3, if_pos rfl, if_neg c3]
        rw [b_197_44]
        rw [b_197_45]
-- emits(II)V
set_option maxRecDepth 20000 in
theorem c_210 {d nS : Nat} {x1 x2 : Int32} {M : am_M} {Q : Option Value → am_H → Prop} (p1 : vp_in (800 + (M 205 29)) 1200) (p2 : vp_in (800 + ((am_up M 219 (800 + (M 205 29)).toNatClampNeg x1) 205 29)) 1200) : am_Wp d 210 0 [.ref 205, .int x1, .int x2] [] (hp nS M) Q = Q none (hp nS (am_up (am_up (am_up M 219 (800 + (M 205 29)).toNatClampNeg x1) 220 (800 + ((am_up M 219 (800 + (M 205 29)).toNatClampNeg x1) 205 29)).toNatClampNeg x2) 205 29 (((am_up (am_up M 219 (800 + (M 205 29)).toNatClampNeg x1) 220 (800 + ((am_up M 219 (800 + (M 205 29)).toNatClampNeg x1) 205 29)).toNatClampNeg x2) 205 29) + 1))) := by
  rw [b_210_0 p1 p2]
-- waits(I)V
set_option maxRecDepth 20000 in
theorem c_212 {d nS : Nat} {x1 : Int32} {M : am_M} {Q : Option Value → am_H → Prop} (p1 : vp_in (M 205 32) 40) : am_Wp d 212 0 [.ref 205, .int x1] [] (hp nS M) Q = Q none (hp nS (am_up (am_up M 221 (M 205 32).toNatClampNeg x1) 205 32 (((am_up M 221 (M 205 32).toNatClampNeg x1) 205 32) + 1))) := by
  rw [b_212_0 p1]
-- twoOf(III)I
set_option maxRecDepth 20000 in
theorem c_237 {d nS : Nat} {x1 x2 x3 : Int32} {M : am_M} {Q : Option Value → am_H → Prop} (p1 : (¬ x1 = 2) → (¬ x1 = 3) → (¬ x1 = 4) → ¬ (¬ x1 = 5) → ¬ x3 = 0) : am_Wp d 237 0 [.ref 205, .int x1, .int x2, .int x3] [] (hp nS M) Q = Q (some (.int (if ¬ x1 = 2 then (if ¬ x1 = 3 then (if ¬ x1 = 4 then (if ¬ x1 = 5 then (if ¬ x1 = 6 then (if ¬ x1 = 7 then (if ¬ x1 = 8 then (if ¬ x1 = 10 then (if (x2 + x3) ≤ 0 then 0 else 1) else (x2 * x3)) else (if x2 ≤ x3 then 0 else 1)) else (if ¬ x2 = x3 then 0 else 1)) else (if x3 ≤ x2 then 0 else 1)) else (x2 / x3)) else (x2 * x3)) else (x2 - x3)) else (x2 + x3)))) (hp nS M) := by
  rw [b_237_0]
  by_cases c1 : ¬ x1 = 2
  · rw [if_pos c1, if_pos c1]
    rw [b_237_9]
    by_cases c2 : ¬ x1 = 3
    · rw [if_pos c2, if_pos c2]
      rw [b_237_18]
      by_cases c3 : ¬ x1 = 4
      · rw [if_pos c3, if_pos c3]
        rw [b_237_27]
        by_cases c4 : ¬ x1 = 5
        · rw [if_pos c4, if_pos c4]
          rw [b_237_36]
          by_cases c5 : ¬ x1 = 6
          · rw [if_pos c5, if_pos c5]
            rw [b_237_53]
            by_cases c6 : ¬ x1 = 7
            · rw [if_pos c6, if_pos c6]
              rw [b_237_70]
              by_cases c7 : ¬ x1 = 8
              · rw [if_pos c7, if_pos c7]
                rw [b_237_87]
                by_cases c8 : ¬ x1 = 10
                · rw [if_pos c8, if_pos c8]
                  rw [b_237_99]
                  by_cases c9 : (x2 + x3) ≤ 0
                  · rw [if_pos c9, if_pos c9]
                    rw [b_237_109]
                    rw [b_237_110]
                  · rw [if_neg c9, if_neg c9]
                    rw [b_237_105]
                    rw [b_237_110]
                · rw [if_neg c8, if_neg c8]
                  rw [b_237_93]
                  rw [b_237_110]
              · rw [if_neg c7, if_neg c7]
                rw [b_237_76]
                by_cases c10 : x2 ≤ x3
                · rw [if_pos c10, if_pos c10]
                  rw [b_237_85]
                  rw [b_237_86]
                · rw [if_neg c10, if_neg c10]
                  rw [b_237_81]
                  rw [b_237_86]
            · rw [if_neg c6, if_neg c6]
              rw [b_237_59]
              by_cases c11 : ¬ x2 = x3
              · rw [if_pos c11, if_pos c11]
                rw [b_237_68]
                rw [b_237_69]
              · rw [if_neg c11, if_neg c11]
                rw [b_237_64]
                rw [b_237_69]
          · rw [if_neg c5, if_neg c5]
            rw [b_237_42]
            by_cases c12 : x3 ≤ x2
            · rw [if_pos c12, if_pos c12]
              rw [b_237_51]
              rw [b_237_52]
            · rw [if_neg c12, if_neg c12]
              rw [b_237_47]
              rw [b_237_52]
        · rw [if_neg c4, if_neg c4]
          rw [b_237_32 (p1 c1 c2 c3 c4)]
      · rw [if_neg c3, if_neg c3]
        rw [b_237_23]
    · rw [if_neg c2, if_neg c2]
      rw [b_237_14]
  · rw [if_neg c1, if_neg c1]
    rw [b_237_5]
-- canAsk(I)Z
set_option maxRecDepth 20000 in
theorem c_209 {d nS : Nat} {x1 : Int32} {M : am_M} {Q : Option Value → am_H → Prop} : am_Wp (d + 1) 209 0 [.ref 205, .int x1] [] (hp nS M) Q = Q (some (.int (if ¬ (x1 < 7) ∧ (¬ (15 < x1)) then 1 else 0))) (hp nS M) := by
  rw [b_209_0]
  rw [c_171]
  simp only [am_ans_some]
  rw [b_209_9 rok_ite]
