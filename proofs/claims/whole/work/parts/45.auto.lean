/-! METHODS WITHOUT LOOPS, by program (ct.py) -/
-- forget()V
set_option maxRecDepth 20000 in
theorem c_37 {d nS : Nat} {M : am_M} {Q : Option Value → am_H → Prop} : am_Wp d 37 0 [.ref 113] [] (hp nS M) Q = Q none (hp nS (am_up M 113 2 0)) := by
  rw [b_37_0]
-- state(I)I
set_option maxRecDepth 20000 in
theorem c_123 {d nS : Nat} {x1 : Int32} {M : am_M} {Q : Option Value → am_H → Prop} : am_Wp (d + 1) 123 0 [.ref 16, .int x1, .retAddr 0] [] (hp nS M) Q = Q (some (.int (M 18 5))) (hp nS (am_up (am_up M 18 5 x1) 113 2 0)) := by
  rw [b_123_0]
  rw [c_37]
  simp only [am_ans_none]
  rw [b_123_29]
-- state(I)I
set_option maxRecDepth 20000 in
theorem c_169 {d nS : Nat} {x1 : Int32} {M : am_M} {Q : Option Value → am_H → Prop} : am_Wp d 169 0 [.ref 205, .int x1, .retAddr 0] [] (hp nS M) Q = Q (some (.int ((am_up M 205 0 0) 206 1))) (hp nS (am_up (am_up (am_up M 205 0 0) 206 1 x1) 205 5 0)) := by
  rw [b_169_0]
-- lark(I)I
set_option maxRecDepth 20000 in
theorem c_124 {d nS : Nat} {x1 : Int32} {M : am_M} {Q : Option Value → am_H → Prop} (p1 : ¬ ((x1 < (0 : Int32)) ∨ (¬ (x1 ≤ (9 : Int32)))) → ((M 18 0) < 6) → vp_in (M 18 0) 6) : am_Wp (d + 1) 124 0 [.ref 16, .int x1, .retAddr 0, .retAddr 0] [] (hp nS M) Q = (if (x1 < (0 : Int32)) ∨ (¬ (x1 ≤ (9 : Int32))) then Q (some (.int (-1))) (hp nS M) else (if (M 18 0) < 6 then Q (some (.int (M 18 0))) (hp nS (am_up (am_up (am_up M 19 (M 18 0).toNatClampNeg x1) 18 0 ((M 18 0) + 1)) 113 2 0)) else Q (some (.int (-1))) (hp nS M))) := by
  rw [b_124_0]
  rw [c_125]
  simp only [am_ans_some]
  rw [b_124_15]
  by_cases c1 : (x1 < (0 : Int32)) ∨ (¬ (x1 ≤ (9 : Int32)))
  · rw [if_pos c1, if_pos bn1, if_pos c1]
    rw [b_124_27]
  · rw [if_neg c1, if_neg bn0, if_neg c1]
    rw [b_124_18]
    by_cases c2 : (M 18 0) < 6
    · rw [if_pos c2, if_pos c2]
      rw [b_124_29 (p1 c1 c2)]
      rw [c_37]
      simp only [am_ans_none]
      rw [b_124_55]
    · rw [if_neg c2, if_neg c2]
      rw [b_124_27]
-- good(I)I
set_option maxRecDepth 20000 in
theorem c_126 {d nS : Nat} {x1 : Int32} {M : am_M} {Q : Option Value → am_H → Prop} (p1 : ¬ ((x1 < (1 : Int32)) ∨ (¬ (x1 ≤ (99 : Int32)))) → ((M 18 1) < 8) → vp_in (M 18 1) 8) (p2 : ¬ ((x1 < (1 : Int32)) ∨ (¬ (x1 ≤ (99 : Int32)))) → ((M 18 1) < 8) → vp_in (M 18 1) 8) (p3 : ¬ ((x1 < (1 : Int32)) ∨ (¬ (x1 ≤ (99 : Int32)))) → ((M 18 1) < 8) → vp_in (M 18 1) 8) : am_Wp (d + 1) 126 0 [.ref 16, .int x1, .retAddr 0, .retAddr 0] [] (hp nS M) Q = (if (x1 < (1 : Int32)) ∨ (¬ (x1 ≤ (99 : Int32))) then Q (some (.int (-1))) (hp nS M) else (if (M 18 1) < 8 then Q (some (.int (M 18 1))) (hp nS (am_up (am_up (am_up (am_up (am_up M 24 (M 18 1).toNatClampNeg x1) 25 (M 18 1).toNatClampNeg (-1)) 26 (M 18 1).toNatClampNeg x1) 18 1 ((M 18 1) + 1)) 113 2 0)) else Q (some (.int (-1))) (hp nS M))) := by
  rw [b_126_0]
  rw [c_125]
  simp only [am_ans_some]
  rw [b_126_15]
  by_cases c1 : (x1 < (1 : Int32)) ∨ (¬ (x1 ≤ (99 : Int32)))
  · rw [if_pos c1, if_pos bn1, if_pos c1]
    rw [b_126_27]
  · rw [if_neg c1, if_neg bn0, if_neg c1]
    rw [b_126_18]
    by_cases c2 : (M 18 1) < 8
    · rw [if_pos c2, if_pos c2]
      rw [b_126_29 (p1 c1 c2) (p2 c1 c2) (p3 c1 c2)]
      rw [c_37]
      simp only [am_ans_none]
      rw [b_126_69]
    · rw [if_neg c2, if_neg c2]
      rw [b_126_27]
-- trader(I)I
set_option maxRecDepth 20000 in
theorem c_127 {d nS : Nat} {x1 : Int32} {M : am_M} {Q : Option Value → am_H → Prop} (p1 : ¬ ((x1 < (0 : Int32)) ∨ (¬ (x1 ≤ (9999 : Int32)))) → ((M 18 2) < 10) → vp_in (M 18 2) 10) : am_Wp (d + 1) 127 0 [.ref 16, .int x1, .retAddr 0, .retAddr 0] [] (hp nS M) Q = (if (x1 < (0 : Int32)) ∨ (¬ (x1 ≤ (9999 : Int32))) then Q (some (.int (-1))) (hp nS M) else (if (M 18 2) < 10 then Q (some (.int (M 18 2))) (hp nS (am_up (am_up (am_up M 27 (M 18 2).toNatClampNeg x1) 18 2 ((M 18 2) + 1)) 113 2 0)) else Q (some (.int (-1))) (hp nS M))) := by
  rw [b_127_0]
  rw [c_125]
  simp only [am_ans_some]
  rw [b_127_16]
  by_cases c1 : (x1 < (0 : Int32)) ∨ (¬ (x1 ≤ (9999 : Int32)))
  · rw [if_pos c1, if_pos bn1, if_pos c1]
    rw [b_127_28]
  · rw [if_neg c1, if_neg bn0, if_neg c1]
    rw [b_127_19]
    by_cases c2 : (M 18 2) < 10
    · rw [if_pos c2, if_pos c2]
      rw [b_127_30 (p1 c1 c2)]
      rw [c_37]
      simp only [am_ans_none]
      rw [b_127_56]
    · rw [if_neg c2, if_neg c2]
      rw [b_127_28]
-- end(I)Z
set_option maxRecDepth 20000 in
theorem c_134 {d nS : Nat} {x1 : Int32} {M : am_M} {Q : Option Value → am_H → Prop} : am_Wp (d + 1) 134 0 [.ref 16, .int x1] [] (hp nS M) Q = (if (x1 < (0 : Int32)) ∨ (¬ (x1 ≤ (M 187 0))) then Q (some (.int 0)) (hp nS M) else Q (some (.int 1)) (hp nS (am_up M 187 0 x1))) := by
  rw [b_134_0]
  rw [c_125]
  simp only [am_ans_some]
  rw [b_134_12]
  by_cases c1 : (x1 < (0 : Int32)) ∨ (¬ (x1 ≤ (M 187 0)))
  · rw [if_pos c1, if_neg bn1, if_pos c1]
    rw [b_134_15]
  · rw [if_neg c1, if_pos rfl, if_neg c1]
    rw [b_134_17]
-- end(I)Z
set_option maxRecDepth 20000 in
theorem c_182 {d nS : Nat} {x1 : Int32} {M : am_M} {Q : Option Value → am_H → Prop} : am_Wp (d + 1) 182 0 [.ref 205, .int x1] [] (hp nS M) Q = (if ¬ (x1 < (0 : Int32)) ∧ (¬ (((am_up M 205 0 0) 205 15) < x1)) then Q (some (.int 1)) (hp nS (am_up (am_up M 205 0 0) 205 15 x1)) else Q (some (.int 0)) (hp nS (am_up M 205 0 0))) := by
  rw [b_182_0]
  rw [c_171]
  simp only [am_ans_some]
  rw [b_182_15]
  by_cases c1 : ¬ (x1 < (0 : Int32)) ∧ (¬ (((am_up M 205 0 0) 205 15) < x1))
  · rw [if_pos c1, if_pos bn1, if_pos c1]
    rw [b_182_20]
  · rw [if_neg c1, if_neg bn0, if_neg c1]
    rw [b_182_18]
-- fault(I)I
set_option maxRecDepth 20000 in
theorem c_136 {d nS : Nat} {x1 : Int32} {M : am_M} {Q : Option Value → am_H → Prop} : am_Wp d 136 0 [.ref 16, .int x1] [] (hp nS M) Q = Q (some (.int (if ¬ x1 = 0 then (if ¬ x1 = 1 then (-1) else (M 187 2)) else (M 187 1)))) (hp nS M) := by
  rw [b_136_0]
  by_cases c1 : ¬ x1 = 0
  · rw [if_pos c1, if_pos c1]
    rw [b_136_12]
    by_cases c2 : ¬ x1 = 1
    · rw [if_pos c2, if_pos c2]
      rw [b_136_27]
      rw [b_136_28]
    · rw [if_neg c2, if_neg c2]
      rw [b_136_17]
      rw [b_136_28]
  · rw [if_neg c1, if_neg c1]
    rw [b_136_4]
-- fault(I)I
set_option maxRecDepth 20000 in
theorem c_217 {d nS : Nat} {x1 : Int32} {M : am_M} {Q : Option Value → am_H → Prop} : am_Wp d 217 0 [.ref 205, .int x1] [] (hp nS M) Q = (if ¬ x1 = 0 then (if ¬ x1 = 1 then Q (some (.int (-1))) (hp nS (am_up M 205 0 0)) else Q (some (.int ((am_up M 205 0 0) 205 36))) (hp nS (am_up M 205 0 0))) else Q (some (.int ((am_up M 205 0 0) 205 35))) (hp nS (am_up M 205 0 0))) := by
  rw [b_217_0]
  by_cases c1 : ¬ x1 = 0
  · rw [if_pos c1, if_pos c1]
    rw [b_217_16]
    by_cases c2 : ¬ x1 = 1
    · rw [if_pos c2, if_pos c2]
      rw [b_217_28]
      rw [b_217_29]
    · rw [if_neg c2, if_neg c2]
      rw [b_217_21]
      rw [b_217_29]
  · rw [if_neg c1, if_neg c1]
    rw [b_217_9]
    rw [b_217_29]
-- book(II)I
set_option maxRecDepth 20000 in
theorem c_140 {d nS : Nat} {x1 x2 : Int32} {M : am_M} {Q : Option Value → am_H → Prop} (p1 : ¬ ((x1 < (0 : Int32)) ∨ (¬ (x1 ≤ ((M 18 6) - 1)))) → ¬ ((x2 < (0 : Int32)) ∨ (¬ (x2 ≤ (3 : Int32)))) → vp_in ((x1 * 4) + x2) 600) : am_Wp (d + 1) 140 0 [.ref 16, .int x1, .int x2] [] (hp nS M) Q = Q (some (.int (if (x1 < (0 : Int32)) ∨ (¬ (x1 ≤ ((M 18 6) - 1))) then (-10) else (if (x2 < (0 : Int32)) ∨ (¬ (x2 ≤ (3 : Int32))) then (-10) else (M 30 ((x1 * 4) + x2).toNatClampNeg))))) (hp nS M) := by
  rw [b_140_0]
  rw [c_125]
  simp only [am_ans_some]
  rw [b_140_17]
  by_cases c1 : (x1 < (0 : Int32)) ∨ (¬ (x1 ≤ ((M 18 6) - 1)))
  · rw [if_pos c1, if_pos bn1, if_pos c1]
    rw [b_140_29]
  · rw [if_neg c1, if_neg bn0, if_neg c1]
    rw [b_140_20]
    rw [c_125]
    simp only [am_ans_some]
    rw [b_140_26]
    by_cases c2 : (x2 < (0 : Int32)) ∨ (¬ (x2 ≤ (3 : Int32)))
    · rw [if_pos c2, if_neg bn1, if_pos c2]
      rw [b_140_29]
    · rw [if_neg c2, if_pos rfl, if_neg c2]
      rw [b_140_32 (p1 c1 c2)]
-- book(II)I
set_option maxRecDepth 20000 in
theorem c_250 {d nS : Nat} {x1 x2 : Int32} {M : am_M} {Q : Option Value → am_H → Prop} (p1 : (¬ (x1 < (0 : Int32)) ∧ (¬ ((((am_up M 205 0 0) 206 2) - 1) < x1))) → (¬ (x2 < (0 : Int32)) ∧ (¬ ((3 : Int32) < x2))) → vp_in ((4 * x1) + x2) 600) : am_Wp (d + 1) 250 0 [.ref 205, .int x1, .int x2] [] (hp nS M) Q = (if ¬ (x1 < (0 : Int32)) ∧ (¬ ((((am_up M 205 0 0) 206 2) - 1) < x1)) then (if ¬ (x2 < (0 : Int32)) ∧ (¬ ((3 : Int32) < x2)) then Q (some (.int ((am_up M 205 0 0) 211 ((4 * x1) + x2).toNatClampNeg))) (hp nS (am_up M 205 0 0)) else Q (some (.int (-10))) (hp nS (am_up M 205 0 0))) else Q (some (.int (-10))) (hp nS (am_up M 205 0 0))) := by
  rw [b_250_0]
  rw [c_171]
  simp only [am_ans_some]
  rw [b_250_19]
  by_cases c1 : ¬ (x1 < (0 : Int32)) ∧ (¬ ((((am_up M 205 0 0) 206 2) - 1) < x1))
  · rw [if_pos c1, if_neg bn1, if_pos c1]
    rw [b_250_22]
    rw [c_171]
    simp only [am_ans_some]
    rw [b_250_29]
    by_cases c2 : ¬ (x2 < (0 : Int32)) ∧ (¬ ((3 : Int32) < x2))
    · rw [if_pos c2, if_neg bn1, if_pos c2]
      rw [b_250_32 (p1 c1 c2)]
      rw [b_250_47]
    · rw [if_neg c2, if_pos rfl, if_neg c2]
      rw [b_250_45]
      rw [b_250_47]
  · rw [if_neg c1, if_pos rfl, if_neg c1]
    rw [b_250_45]
    rw [b_250_47]
-- takes(I)I
set_option maxRecDepth 20000 in
theorem c_65 {d nS : Nat} {x1 : Int32} {M : am_M} {Q : Option Value → am_H → Prop} (p1 : (¬ x1 = (-1)) → ¬ (x1 < 1) → ¬ (99 < x1) → ((M 45 1) < 14) → vp_in (M 45 1) 14) : am_Wp d 65 0 [.ref 45, .int x1] [] (hp nS M) Q = (if ¬ x1 = (-1) then (if x1 < 1 then Q (some (.int (-1))) (hp nS M) else (if 99 < x1 then Q (some (.int (-1))) (hp nS M) else (if (M 45 1) < 14 then Q (some (.int ((am_up (am_up M 46 (M 45 1).toNatClampNeg x1) 45 1 (((am_up M 46 (M 45 1).toNatClampNeg x1) 45 1) + 1)) 45 1))) (hp nS (am_up (am_up M 46 (M 45 1).toNatClampNeg x1) 45 1 (((am_up M 46 (M 45 1).toNatClampNeg x1) 45 1) + 1))) else Q (some (.int (-1))) (hp nS M)))) else Q (some (.int 0)) (hp nS (am_up M 45 1 0))) := by
  rw [b_65_0]
  by_cases c1 : ¬ x1 = (-1)
  · rw [if_pos c1, if_pos c1]
    rw [b_65_12]
    by_cases c2 : x1 < 1
    · rw [if_pos c2, if_pos c2]
      rw [b_65_32]
    · rw [if_neg c2, if_neg c2]
      rw [b_65_17]
      by_cases c3 : 99 < x1
      · rw [if_pos c3, if_pos c3]
        rw [b_65_32]
      · rw [if_neg c3, if_neg c3]
        rw [b_65_23]
        by_cases c4 : (M 45 1) < 14
        · rw [if_pos c4, if_pos c4]
          rw [b_65_34 (p1 c1 c2 c3 c4)]
        · rw [if_neg c4, if_neg c4]
          rw [b_65_32]
  · rw [if_neg c1, if_neg c1]
    rw [b_65_5]
-- price(I)I
set_option maxRecDepth 20000 in
theorem c_144 {d nS : Nat} {x1 : Int32} {M : am_M} {Q : Option Value → am_H → Prop} (p1 : (¬ x1 = (-1)) → ¬ (x1 < 1) → ¬ (99 < x1) → ((M 45 1) < 14) → vp_in (M 45 1) 14) : am_Wp (d + 1) 144 0 [.ref 16, .int x1] [] (hp nS M) Q = (if ¬ x1 = (-1) then (if x1 < 1 then Q (some (.int (-1))) (hp nS M) else (if 99 < x1 then Q (some (.int (-1))) (hp nS M) else (if (M 45 1) < 14 then Q (some (.int ((am_up (am_up M 46 (M 45 1).toNatClampNeg x1) 45 1 (((am_up M 46 (M 45 1).toNatClampNeg x1) 45 1) + 1)) 45 1))) (hp nS (am_up (am_up M 46 (M 45 1).toNatClampNeg x1) 45 1 (((am_up M 46 (M 45 1).toNatClampNeg x1) 45 1) + 1))) else Q (some (.int (-1))) (hp nS M)))) else Q (some (.int 0)) (hp nS (am_up M 45 1 0))) := by
  rw [b_144_0]
  rw [c_65 p1]
  by_cases c1 : ¬ x1 = (-1)
  · rw [if_pos c1, if_pos c1]
    by_cases c2 : x1 < 1
    · rw [if_pos c2, if_pos c2]
      simp only [am_ans_some]
      rw [b_144_11]
    · rw [if_neg c2, if_neg c2]
      by_cases c3 : 99 < x1
      · rw [if_pos c3, if_pos c3]
        simp only [am_ans_some]
        rw [b_144_11]
      · rw [if_neg c3, if_neg c3]
        by_cases c4 : (M 45 1) < 14
        · rw [if_pos c4, if_pos c4]
          simp only [am_ans_some]
          rw [b_144_11]
        · rw [if_neg c4, if_neg c4]
          simp only [am_ans_some]
          rw [b_144_11]
  · rw [if_neg c1, if_neg c1]
    simp only [am_ans_some]
    rw [b_144_11]
-- price(I)I
set_option maxRecDepth 20000 in
theorem c_256 {d nS : Nat} {x1 : Int32} {M : am_M} {Q : Option Value → am_H → Prop} (p1 : (¬ x1 = (-1)) → (¬ (x1 < (1 : Int32)) ∧ (¬ ((99 : Int32) < x1))) → (¬ ((am_up M 205 0 0) 205 45) = 14) → vp_in ((am_up M 205 0 0) 205 45) 14) : am_Wp (d + 1) 256 0 [.ref 205, .int x1] [] (hp nS M) Q = (if ¬ x1 = (-1) then (if ¬ (x1 < (1 : Int32)) ∧ (¬ ((99 : Int32) < x1)) then (if ¬ ((am_up M 205 0 0) 205 45) = 14 then Q (some (.int ((am_up (am_up (am_up M 205 0 0) 227 ((am_up M 205 0 0) 205 45).toNatClampNeg x1) 205 45 (((am_up (am_up M 205 0 0) 227 ((am_up M 205 0 0) 205 45).toNatClampNeg x1) 205 45) + 1)) 205 45))) (hp nS (am_up (am_up (am_up M 205 0 0) 227 ((am_up M 205 0 0) 205 45).toNatClampNeg x1) 205 45 (((am_up (am_up M 205 0 0) 227 ((am_up M 205 0 0) 205 45).toNatClampNeg x1) 205 45) + 1))) else Q (some (.int (-1))) (hp nS (am_up M 205 0 0))) else Q (some (.int (-1))) (hp nS (am_up M 205 0 0))) else Q (some (.int 0)) (hp nS (am_up (am_up M 205 0 0) 205 45 0))) := by
  rw [b_256_0]
  by_cases c1 : ¬ x1 = (-1)
  · rw [if_pos c1, if_pos c1]
    rw [b_256_17]
    rw [c_171]
    simp only [am_ans_some]
    rw [b_256_25]
    by_cases c2 : ¬ (x1 < (1 : Int32)) ∧ (¬ ((99 : Int32) < x1))
    · rw [if_pos c2, if_neg bn1, if_pos c2]
      rw [b_256_28]
      by_cases c3 : ¬ ((am_up M 205 0 0) 205 45) = 14
      · rw [if_pos c3, if_pos c3]
        rw [b_256_39 (p1 c1 c2 c3)]
      · rw [if_neg c3, if_neg c3]
        rw [b_256_37]
    · rw [if_neg c2, if_pos rfl, if_neg c2]
      rw [b_256_37]
  · rw [if_neg c1, if_neg c1]
    rw [b_256_10]
-- changes(III)Z
set_option maxRecDepth 20000 in
theorem c_2 {d nS : Nat} {x1 x2 x3 : Int32} {M : am_M} {Q : Option Value → am_H → Prop} (p1 : ¬ ((x1 < (0 : Int32)) ∨ (¬ (x1 ≤ (3 : Int32)))) → ¬ ((x2 < (0 : Int32)) ∨ (¬ (x2 ≤ (3 : Int32)))) → (¬ x1 = x2) → (x3 = 0) → vp_in ((x1 * 4) + x2) 16) (p2 : ¬ ((x1 < (0 : Int32)) ∨ (¬ (x1 ≤ (3 : Int32)))) → ¬ ((x2 < (0 : Int32)) ∨ (¬ (x2 ≤ (3 : Int32)))) → (¬ x1 = x2) → ¬ (x3 = 0) → ¬ ((x3 < (11 : Int32)) ∨ (¬ (x3 ≤ (99 : Int32)))) → (¬ (x3 - x3 / 10 * 10) = 0) → vp_in ((x1 * 4) + x2) 16) : am_Wp (d + 1) 2 0 [.ref 54, .int x1, .int x2, .int x3] [] (hp nS M) Q = (if (x1 < (0 : Int32)) ∨ (¬ (x1 ≤ (3 : Int32))) then Q (some (.int 0)) (hp nS M) else (if (x2 < (0 : Int32)) ∨ (¬ (x2 ≤ (3 : Int32))) then Q (some (.int 0)) (hp nS M) else (if ¬ x1 = x2 then (if x3 = 0 then Q (some (.int 1)) (hp nS (am_up M 55 ((x1 * 4) + x2).toNatClampNeg x3)) else (if (x3 < (11 : Int32)) ∨ (¬ (x3 ≤ (99 : Int32))) then Q (some (.int 0)) (hp nS M) else (if ¬ (x3 - x3 / 10 * 10) = 0 then Q (some (.int 1)) (hp nS (am_up M 55 ((x1 * 4) + x2).toNatClampNeg x3)) else Q (some (.int 0)) (hp nS M)))) else Q (some (.int 0)) (hp nS M)))) := by
  rw [b_2_0]
  rw [c_125]
  simp only [am_ans_some]
  rw [b_2_6]
  by_cases c1 : (x1 < (0 : Int32)) ∨ (¬ (x1 ≤ (3 : Int32)))
  · rw [if_pos c1, if_pos bn1, if_pos c1]
    rw [b_2_23]
  · rw [if_neg c1, if_neg bn0, if_neg c1]
    rw [b_2_9]
    rw [c_125]
    simp only [am_ans_some]
    rw [b_2_15]
    by_cases c2 : (x2 < (0 : Int32)) ∨ (¬ (x2 ≤ (3 : Int32)))
    · rw [if_pos c2, if_pos bn1, if_pos c2]
      rw [b_2_23]
    · rw [if_neg c2, if_neg bn0, if_neg c2]
      rw [b_2_18]
      by_cases c3 : ¬ x1 = x2
      · rw [if_pos c3, if_pos c3]
        rw [b_2_25]
        by_cases c4 : x3 = 0
        · rw [if_pos c4, if_pos c4]
          rw [b_2_49 (p1 c1 c2 c3 c4)]
        · rw [if_neg c4, if_neg c4]
          rw [b_2_29]
          rw [c_125]
          simp only [am_ans_some]
          rw [b_2_37]
          by_cases c5 : (x3 < (11 : Int32)) ∨ (¬ (x3 ≤ (99 : Int32)))
          · rw [if_pos c5, if_pos bn1, if_pos c5]
            rw [b_2_47]
          · rw [if_neg c5, if_neg bn0, if_neg c5]
            rw [b_2_40]
            by_cases c6 : ¬ (x3 - x3 / 10 * 10) = 0
            · rw [if_pos c6, if_pos c6]
              rw [b_2_49 (p2 c1 c2 c3 c4 c5 c6)]
            · rw [if_neg c6, if_neg c6]
              rw [b_2_47]
      · rw [if_neg c3, if_neg c3]
        rw [b_2_23]
-- change(III)Z
set_option maxRecDepth 20000 in
theorem c_146 {d nS : Nat} {x1 x2 x3 : Int32} {M : am_M} {Q : Option Value → am_H → Prop} (p1 : ¬ ((x1 < (0 : Int32)) ∨ (¬ (x1 ≤ (3 : Int32)))) → ¬ ((x2 < (0 : Int32)) ∨ (¬ (x2 ≤ (3 : Int32)))) → (¬ x1 = x2) → (x3 = 0) → vp_in ((x1 * 4) + x2) 16) (p2 : ¬ ((x1 < (0 : Int32)) ∨ (¬ (x1 ≤ (3 : Int32)))) → ¬ ((x2 < (0 : Int32)) ∨ (¬ (x2 ≤ (3 : Int32)))) → (¬ x1 = x2) → ¬ (x3 = 0) → ¬ ((x3 < (11 : Int32)) ∨ (¬ (x3 ≤ (99 : Int32)))) → (¬ (x3 - x3 / 10 * 10) = 0) → vp_in ((x1 * 4) + x2) 16) : am_Wp (d + 2) 146 0 [.ref 16, .int x1, .int x2, .int x3] [] (hp nS M) Q = (if (x1 < (0 : Int32)) ∨ (¬ (x1 ≤ (3 : Int32))) then Q (some (.int 0)) (hp nS M) else (if (x2 < (0 : Int32)) ∨ (¬ (x2 ≤ (3 : Int32))) then Q (some (.int 0)) (hp nS M) else (if ¬ x1 = x2 then (if x3 = 0 then Q (some (.int 1)) (hp nS (am_up M 55 ((x1 * 4) + x2).toNatClampNeg x3)) else (if (x3 < (11 : Int32)) ∨ (¬ (x3 ≤ (99 : Int32))) then Q (some (.int 0)) (hp nS M) else (if ¬ (x3 - x3 / 10 * 10) = 0 then Q (some (.int 1)) (hp nS (am_up M 55 ((x1 * 4) + x2).toNatClampNeg x3)) else Q (some (.int 0)) (hp nS M)))) else Q (some (.int 0)) (hp nS M)))) := by
  rw [b_146_0]
  rw [c_2 p1 p2]
  by_cases c1 : (x1 < (0 : Int32)) ∨ (¬ (x1 ≤ (3 : Int32)))
  · rw [if_pos c1, if_pos c1]
    simp only [am_ans_some]
    rw [b_146_13 rok0]
  · rw [if_neg c1, if_neg c1]
    by_cases c2 : (x2 < (0 : Int32)) ∨ (¬ (x2 ≤ (3 : Int32)))
    · rw [if_pos c2, if_pos c2]
      simp only [am_ans_some]
      rw [b_146_13 rok0]
    · rw [if_neg c2, if_neg c2]
      by_cases c3 : ¬ x1 = x2
      · rw [if_pos c3, if_pos c3]
        by_cases c4 : x3 = 0
        · rw [if_pos c4, if_pos c4]
          simp only [am_ans_some]
          rw [b_146_13 rok1]
        · rw [if_neg c4, if_neg c4]
          by_cases c5 : (x3 < (11 : Int32)) ∨ (¬ (x3 ≤ (99 : Int32)))
          · rw [if_pos c5, if_pos c5]
            simp only [am_ans_some]
            rw [b_146_13 rok0]
          · rw [if_neg c5, if_neg c5]
            by_cases c6 : ¬ (x3 - x3 / 10 * 10) = 0
            · rw [if_pos c6, if_pos c6]
              simp only [am_ans_some]
              rw [b_146_13 rok1]
            · rw [if_neg c6, if_neg c6]
              simp only [am_ans_some]
              rw [b_146_13 rok0]
      · rw [if_neg c3, if_neg c3]
        simp only [am_ans_some]
        rw [b_146_13 rok0]
-- change(III)Z
set_option maxRecDepth 20000 in
theorem c_264 {d nS : Nat} {x1 x2 x3 : Int32} {M : am_M} {Q : Option Value → am_H → Prop} (p1 : (¬ (x1 < (0 : Int32)) ∧ (¬ ((3 : Int32) < x1))) → (¬ (x2 < (0 : Int32)) ∧ (¬ ((3 : Int32) < x2))) → (¬ x1 = x2) → (x3 = 0) → vp_in ((4 * x1) + x2) 16) (p2 : (¬ (x1 < (0 : Int32)) ∧ (¬ ((3 : Int32) < x1))) → (¬ (x2 < (0 : Int32)) ∧ (¬ ((3 : Int32) < x2))) → (¬ x1 = x2) → ¬ (x3 = 0) → (¬ (x3 < (11 : Int32)) ∧ (¬ ((99 : Int32) < x3))) → (¬ (x3 - x3 / 10 * 10) = 0) → vp_in ((4 * x1) + x2) 16) : am_Wp (d + 1) 264 0 [.ref 205, .int x1, .int x2, .int x3] [] (hp nS M) Q = (if ¬ (x1 < (0 : Int32)) ∧ (¬ ((3 : Int32) < x1)) then (if ¬ (x2 < (0 : Int32)) ∧ (¬ ((3 : Int32) < x2)) then (if ¬ x1 = x2 then (if x3 = 0 then Q (some (.int 1)) (hp nS (am_up (am_up M 205 0 0) 229 ((4 * x1) + x2).toNatClampNeg x3)) else (if ¬ (x3 < (11 : Int32)) ∧ (¬ ((99 : Int32) < x3)) then (if ¬ (x3 - x3 / 10 * 10) = 0 then Q (some (.int 1)) (hp nS (am_up (am_up M 205 0 0) 229 ((4 * x1) + x2).toNatClampNeg x3)) else Q (some (.int 0)) (hp nS (am_up M 205 0 0))) else Q (some (.int 0)) (hp nS (am_up M 205 0 0)))) else Q (some (.int 0)) (hp nS (am_up M 205 0 0))) else Q (some (.int 0)) (hp nS (am_up M 205 0 0))) else Q (some (.int 0)) (hp nS (am_up M 205 0 0))) := by
  rw [b_264_0]
  rw [c_171]
  simp only [am_ans_some]
  rw [b_264_12]
  by_cases c1 : ¬ (x1 < (0 : Int32)) ∧ (¬ ((3 : Int32) < x1))
  · rw [if_pos c1, if_neg bn1, if_pos c1]
    rw [b_264_15]
    rw [c_171]
    simp only [am_ans_some]
    rw [b_264_22]
    by_cases c2 : ¬ (x2 < (0 : Int32)) ∧ (¬ ((3 : Int32) < x2))
    · rw [if_pos c2, if_neg bn1, if_pos c2]
      rw [b_264_25]
      by_cases c3 : ¬ x1 = x2
      · rw [if_pos c3, if_pos c3]
        rw [b_264_32]
        by_cases c4 : x3 = 0
        · rw [if_pos c4, if_pos c4]
          rw [b_264_57 (p1 c1 c2 c3 c4)]
        · rw [if_neg c4, if_neg c4]
          rw [b_264_36]
          rw [c_171]
          simp only [am_ans_some]
          rw [b_264_45]
          by_cases c5 : ¬ (x3 < (11 : Int32)) ∧ (¬ ((99 : Int32) < x3))
          · rw [if_pos c5, if_neg bn1, if_pos c5]
            rw [b_264_48]
            by_cases c6 : ¬ (x3 - x3 / 10 * 10) = 0
            · rw [if_pos c6, if_pos c6]
              rw [b_264_57 (p2 c1 c2 c3 c4 c5 c6)]
            · rw [if_neg c6, if_neg c6]
              rw [b_264_55]
          · rw [if_neg c5, if_pos rfl, if_neg c5]
            rw [b_264_55]
      · rw [if_neg c3, if_neg c3]
        rw [b_264_30]
    · rw [if_neg c2, if_pos rfl, if_neg c2]
      rw [b_264_30]
  · rw [if_neg c1, if_pos rfl, if_neg c1]
    rw [b_264_30]
-- takes(II)I
set_option maxRecDepth 20000 in
theorem c_12 {d nS : Nat} {x1 x2 : Int32} {M : am_M} {Q : Option Value → am_H → Prop} (p1 : (¬ x1 = (-1)) → ¬ ((x1 < (0 : Int32)) ∨ (¬ (x1 ≤ (7 : Int32)))) → ¬ ((x2 < (0 : Int32)) ∨ (¬ (x2 ≤ (7 : Int32)))) → ¬ (x1 = x2) → ((M 50 1) < 14) → vp_in ((M 50 1) * 2) 28) (p2 : (¬ x1 = (-1)) → ¬ ((x1 < (0 : Int32)) ∨ (¬ (x1 ≤ (7 : Int32)))) → ¬ ((x2 < (0 : Int32)) ∨ (¬ (x2 ≤ (7 : Int32)))) → ¬ (x1 = x2) → ((M 50 1) < 14) → vp_in ((((am_up M 51 ((M 50 1) * 2).toNatClampNeg x1) 50 1) * 2) + 1) 28) : am_Wp (d + 1) 12 0 [.ref 50, .int x1, .int x2] [] (hp nS M) Q = (if ¬ x1 = (-1) then (if (x1 < (0 : Int32)) ∨ (¬ (x1 ≤ (7 : Int32))) then Q (some (.int (-1))) (hp nS M) else (if (x2 < (0 : Int32)) ∨ (¬ (x2 ≤ (7 : Int32))) then Q (some (.int (-1))) (hp nS M) else (if x1 = x2 then Q (some (.int (-1))) (hp nS M) else (if (M 50 1) < 14 then Q (some (.int ((am_up (am_up (am_up M 51 ((M 50 1) * 2).toNatClampNeg x1) 51 ((((am_up M 51 ((M 50 1) * 2).toNatClampNeg x1) 50 1) * 2) + 1).toNatClampNeg x2) 50 1 (((am_up (am_up M 51 ((M 50 1) * 2).toNatClampNeg x1) 51 ((((am_up M 51 ((M 50 1) * 2).toNatClampNeg x1) 50 1) * 2) + 1).toNatClampNeg x2) 50 1) + 1)) 50 1))) (hp nS (am_up (am_up (am_up M 51 ((M 50 1) * 2).toNatClampNeg x1) 51 ((((am_up M 51 ((M 50 1) * 2).toNatClampNeg x1) 50 1) * 2) + 1).toNatClampNeg x2) 50 1 (((am_up (am_up M 51 ((M 50 1) * 2).toNatClampNeg x1) 51 ((((am_up M 51 ((M 50 1) * 2).toNatClampNeg x1) 50 1) * 2) + 1).toNatClampNeg x2) 50 1) + 1))) else Q (some (.int (-1))) (hp nS M))))) else Q (some (.int 0)) (hp nS (am_up M 50 1 0))) := by
  rw [b_12_0]
  by_cases c1 : ¬ x1 = (-1)
  · rw [if_pos c1, if_pos c1]
    rw [b_12_12]
    rw [c_125]
    simp only [am_ans_some]
    rw [b_12_19]
    by_cases c2 : (x1 < (0 : Int32)) ∨ (¬ (x1 ≤ (7 : Int32)))
    · rw [if_pos c2, if_pos bn1, if_pos c2]
      rw [b_12_46]
    · rw [if_neg c2, if_neg bn0, if_neg c2]
      rw [b_12_22]
      rw [c_125]
      simp only [am_ans_some]
      rw [b_12_29]
      by_cases c3 : (x2 < (0 : Int32)) ∨ (¬ (x2 ≤ (7 : Int32)))
      · rw [if_pos c3, if_pos bn1, if_pos c3]
        rw [b_12_46]
      · rw [if_neg c3, if_neg bn0, if_neg c3]
        rw [b_12_32]
        by_cases c4 : x1 = x2
        · rw [if_pos c4, if_pos c4]
          rw [b_12_46]
        · rw [if_neg c4, if_neg c4]
          rw [b_12_37]
          by_cases c5 : (M 50 1) < 14
          · rw [if_pos c5, if_pos c5]
            rw [b_12_48 (p1 c1 c2 c3 c4 c5) (p2 c1 c2 c3 c4 c5)]
          · rw [if_neg c5, if_neg c5]
            rw [b_12_46]
  · rw [if_neg c1, if_neg c1]
    rw [b_12_5]
-- way(II)I
set_option maxRecDepth 20000 in
theorem c_157 {d nS : Nat} {x1 x2 : Int32} {M : am_M} {Q : Option Value → am_H → Prop} (p1 : (¬ x1 = (-1)) → ¬ ((x1 < (0 : Int32)) ∨ (¬ (x1 ≤ (7 : Int32)))) → ¬ ((x2 < (0 : Int32)) ∨ (¬ (x2 ≤ (7 : Int32)))) → ¬ (x1 = x2) → ((M 50 1) < 14) → vp_in ((M 50 1) * 2) 28) (p2 : (¬ x1 = (-1)) → ¬ ((x1 < (0 : Int32)) ∨ (¬ (x1 ≤ (7 : Int32)))) → ¬ ((x2 < (0 : Int32)) ∨ (¬ (x2 ≤ (7 : Int32)))) → ¬ (x1 = x2) → ((M 50 1) < 14) → vp_in ((((am_up M 51 ((M 50 1) * 2).toNatClampNeg x1) 50 1) * 2) + 1) 28) : am_Wp (d + 2) 157 0 [.ref 16, .int x1, .int x2] [] (hp nS M) Q = (if ¬ x1 = (-1) then (if (x1 < (0 : Int32)) ∨ (¬ (x1 ≤ (7 : Int32))) then Q (some (.int (-1))) (hp nS M) else (if (x2 < (0 : Int32)) ∨ (¬ (x2 ≤ (7 : Int32))) then Q (some (.int (-1))) (hp nS M) else (if x1 = x2 then Q (some (.int (-1))) (hp nS M) else (if (M 50 1) < 14 then Q (some (.int ((am_up (am_up (am_up M 51 ((M 50 1) * 2).toNatClampNeg x1) 51 ((((am_up M 51 ((M 50 1) * 2).toNatClampNeg x1) 50 1) * 2) + 1).toNatClampNeg x2) 50 1 (((am_up (am_up M 51 ((M 50 1) * 2).toNatClampNeg x1) 51 ((((am_up M 51 ((M 50 1) * 2).toNatClampNeg x1) 50 1) * 2) + 1).toNatClampNeg x2) 50 1) + 1)) 50 1))) (hp nS (am_up (am_up (am_up M 51 ((M 50 1) * 2).toNatClampNeg x1) 51 ((((am_up M 51 ((M 50 1) * 2).toNatClampNeg x1) 50 1) * 2) + 1).toNatClampNeg x2) 50 1 (((am_up (am_up M 51 ((M 50 1) * 2).toNatClampNeg x1) 51 ((((am_up M 51 ((M 50 1) * 2).toNatClampNeg x1) 50 1) * 2) + 1).toNatClampNeg x2) 50 1) + 1))) else Q (some (.int (-1))) (hp nS M))))) else Q (some (.int 0)) (hp nS (am_up M 50 1 0))) := by
  rw [b_157_0]
  rw [c_12 p1 p2]
  by_cases c1 : ¬ x1 = (-1)
  · rw [if_pos c1, if_pos c1]
    by_cases c2 : (x1 < (0 : Int32)) ∨ (¬ (x1 ≤ (7 : Int32)))
    · rw [if_pos c2, if_pos c2]
      simp only [am_ans_some]
      rw [b_157_12]
    · rw [if_neg c2, if_neg c2]
      by_cases c3 : (x2 < (0 : Int32)) ∨ (¬ (x2 ≤ (7 : Int32)))
      · rw [if_pos c3, if_pos c3]
        simp only [am_ans_some]
        rw [b_157_12]
      · rw [if_neg c3, if_neg c3]
        by_cases c4 : x1 = x2
        · rw [if_pos c4, if_pos c4]
          simp only [am_ans_some]
          rw [b_157_12]
        · rw [if_neg c4, if_neg c4]
          by_cases c5 : (M 50 1) < 14
          · rw [if_pos c5, if_pos c5]
            simp only [am_ans_some]
            rw [b_157_12]
          · rw [if_neg c5, if_neg c5]
            simp only [am_ans_some]
            rw [b_157_12]
  · rw [if_neg c1, if_neg c1]
    simp only [am_ans_some]
    rw [b_157_12]
-- takes(II)I
set_option maxRecDepth 20000 in
theorem c_6 {d nS : Nat} {x1 x2 : Int32} {M : am_M} {Q : Option Value → am_H → Prop} (p1 : (¬ x1 = (-1)) → ¬ ((x1 < (1 : Int32)) ∨ (¬ (x1 ≤ (30 : Int32)))) → ¬ ((x2 < (1 : Int32)) ∨ (¬ (x2 ≤ (99 : Int32)))) → ((M 54 3) < 8) → vp_in (M 54 3) 8) (p2 : (¬ x1 = (-1)) → ¬ ((x1 < (1 : Int32)) ∨ (¬ (x1 ≤ (30 : Int32)))) → ¬ ((x2 < (1 : Int32)) ∨ (¬ (x2 ≤ (99 : Int32)))) → ((M 54 3) < 8) → vp_in ((am_up M 56 (M 54 3).toNatClampNeg x1) 54 3) 8) : am_Wp (d + 1) 6 0 [.ref 54, .int x1, .int x2] [] (hp nS M) Q = (if ¬ x1 = (-1) then (if (x1 < (1 : Int32)) ∨ (¬ (x1 ≤ (30 : Int32))) then Q (some (.int (-1))) (hp nS M) else (if (x2 < (1 : Int32)) ∨ (¬ (x2 ≤ (99 : Int32))) then Q (some (.int (-1))) (hp nS M) else (if (M 54 3) < 8 then Q (some (.int ((am_up (am_up (am_up M 56 (M 54 3).toNatClampNeg x1) 57 ((am_up M 56 (M 54 3).toNatClampNeg x1) 54 3).toNatClampNeg x2) 54 3 (((am_up (am_up M 56 (M 54 3).toNatClampNeg x1) 57 ((am_up M 56 (M 54 3).toNatClampNeg x1) 54 3).toNatClampNeg x2) 54 3) + 1)) 54 3))) (hp nS (am_up (am_up (am_up M 56 (M 54 3).toNatClampNeg x1) 57 ((am_up M 56 (M 54 3).toNatClampNeg x1) 54 3).toNatClampNeg x2) 54 3 (((am_up (am_up M 56 (M 54 3).toNatClampNeg x1) 57 ((am_up M 56 (M 54 3).toNatClampNeg x1) 54 3).toNatClampNeg x2) 54 3) + 1))) else Q (some (.int (-1))) (hp nS M)))) else Q (some (.int 0)) (hp nS (am_up M 54 3 0))) := by
  rw [b_6_0]
  by_cases c1 : ¬ x1 = (-1)
  · rw [if_pos c1, if_pos c1]
    rw [b_6_12]
    rw [c_125]
    simp only [am_ans_some]
    rw [b_6_19]
    by_cases c2 : (x1 < (1 : Int32)) ∨ (¬ (x1 ≤ (30 : Int32)))
    · rw [if_pos c2, if_pos bn1, if_pos c2]
      rw [b_6_41]
    · rw [if_neg c2, if_neg bn0, if_neg c2]
      rw [b_6_22]
      rw [c_125]
      simp only [am_ans_some]
      rw [b_6_29]
      by_cases c3 : (x2 < (1 : Int32)) ∨ (¬ (x2 ≤ (99 : Int32)))
      · rw [if_pos c3, if_pos bn1, if_pos c3]
        rw [b_6_41]
      · rw [if_neg c3, if_neg bn0, if_neg c3]
        rw [b_6_32]
        by_cases c4 : (M 54 3) < 8
        · rw [if_pos c4, if_pos c4]
          rw [b_6_43 (p1 c1 c2 c3 c4) (p2 c1 c2 c3 c4)]
        · rw [if_neg c4, if_neg c4]
          rw [b_6_41]
  · rw [if_neg c1, if_neg c1]
    rw [b_6_5]
-- sack(II)I
set_option maxRecDepth 20000 in
theorem c_159 {d nS : Nat} {x1 x2 : Int32} {M : am_M} {Q : Option Value → am_H → Prop} (p1 : (¬ x1 = (-1)) → ¬ ((x1 < (1 : Int32)) ∨ (¬ (x1 ≤ (30 : Int32)))) → ¬ ((x2 < (1 : Int32)) ∨ (¬ (x2 ≤ (99 : Int32)))) → ((M 54 3) < 8) → vp_in (M 54 3) 8) (p2 : (¬ x1 = (-1)) → ¬ ((x1 < (1 : Int32)) ∨ (¬ (x1 ≤ (30 : Int32)))) → ¬ ((x2 < (1 : Int32)) ∨ (¬ (x2 ≤ (99 : Int32)))) → ((M 54 3) < 8) → vp_in ((am_up M 56 (M 54 3).toNatClampNeg x1) 54 3) 8) : am_Wp (d + 2) 159 0 [.ref 16, .int x1, .int x2] [] (hp nS M) Q = (if ¬ x1 = (-1) then (if (x1 < (1 : Int32)) ∨ (¬ (x1 ≤ (30 : Int32))) then Q (some (.int (-1))) (hp nS M) else (if (x2 < (1 : Int32)) ∨ (¬ (x2 ≤ (99 : Int32))) then Q (some (.int (-1))) (hp nS M) else (if (M 54 3) < 8 then Q (some (.int ((am_up (am_up (am_up M 56 (M 54 3).toNatClampNeg x1) 57 ((am_up M 56 (M 54 3).toNatClampNeg x1) 54 3).toNatClampNeg x2) 54 3 (((am_up (am_up M 56 (M 54 3).toNatClampNeg x1) 57 ((am_up M 56 (M 54 3).toNatClampNeg x1) 54 3).toNatClampNeg x2) 54 3) + 1)) 54 3))) (hp nS (am_up (am_up (am_up M 56 (M 54 3).toNatClampNeg x1) 57 ((am_up M 56 (M 54 3).toNatClampNeg x1) 54 3).toNatClampNeg x2) 54 3 (((am_up (am_up M 56 (M 54 3).toNatClampNeg x1) 57 ((am_up M 56 (M 54 3).toNatClampNeg x1) 54 3).toNatClampNeg x2) 54 3) + 1))) else Q (some (.int (-1))) (hp nS M)))) else Q (some (.int 0)) (hp nS (am_up M 54 3 0))) := by
  rw [b_159_0]
  rw [c_6 p1 p2]
  by_cases c1 : ¬ x1 = (-1)
  · rw [if_pos c1, if_pos c1]
    by_cases c2 : (x1 < (1 : Int32)) ∨ (¬ (x1 ≤ (30 : Int32)))
    · rw [if_pos c2, if_pos c2]
      simp only [am_ans_some]
      rw [b_159_12]
    · rw [if_neg c2, if_neg c2]
      by_cases c3 : (x2 < (1 : Int32)) ∨ (¬ (x2 ≤ (99 : Int32)))
      · rw [if_pos c3, if_pos c3]
        simp only [am_ans_some]
        rw [b_159_12]
      · rw [if_neg c3, if_neg c3]
        by_cases c4 : (M 54 3) < 8
        · rw [if_pos c4, if_pos c4]
          simp only [am_ans_some]
          rw [b_159_12]
        · rw [if_neg c4, if_neg c4]
          simp only [am_ans_some]
          rw [b_159_12]
  · rw [if_neg c1, if_neg c1]
    simp only [am_ans_some]
    rw [b_159_12]
-- sack(II)I
set_option maxRecDepth 20000 in
theorem c_283 {d nS : Nat} {x1 x2 : Int32} {M : am_M} {Q : Option Value → am_H → Prop} (p1 : (¬ x1 = (-1)) → (¬ (x1 < (1 : Int32)) ∧ (¬ ((30 : Int32) < x1))) → (¬ (x2 < (1 : Int32)) ∧ (¬ ((99 : Int32) < x2))) → (¬ ((am_up M 205 0 0) 205 54) = 8) → vp_in ((am_up M 205 0 0) 205 54) 8) (p2 : (¬ x1 = (-1)) → (¬ (x1 < (1 : Int32)) ∧ (¬ ((30 : Int32) < x1))) → (¬ (x2 < (1 : Int32)) ∧ (¬ ((99 : Int32) < x2))) → (¬ ((am_up M 205 0 0) 205 54) = 8) → vp_in ((am_up (am_up M 205 0 0) 234 ((am_up M 205 0 0) 205 54).toNatClampNeg x1) 205 54) 8) : am_Wp (d + 1) 283 0 [.ref 205, .int x1, .int x2] [] (hp nS M) Q = (if ¬ x1 = (-1) then (if ¬ (x1 < (1 : Int32)) ∧ (¬ ((30 : Int32) < x1)) then (if ¬ (x2 < (1 : Int32)) ∧ (¬ ((99 : Int32) < x2)) then (if ¬ ((am_up M 205 0 0) 205 54) = 8 then Q (some (.int ((am_up (am_up (am_up (am_up M 205 0 0) 234 ((am_up M 205 0 0) 205 54).toNatClampNeg x1) 235 ((am_up (am_up M 205 0 0) 234 ((am_up M 205 0 0) 205 54).toNatClampNeg x1) 205 54).toNatClampNeg x2) 205 54 (((am_up (am_up (am_up M 205 0 0) 234 ((am_up M 205 0 0) 205 54).toNatClampNeg x1) 235 ((am_up (am_up M 205 0 0) 234 ((am_up M 205 0 0) 205 54).toNatClampNeg x1) 205 54).toNatClampNeg x2) 205 54) + 1)) 205 54))) (hp nS (am_up (am_up (am_up (am_up M 205 0 0) 234 ((am_up M 205 0 0) 205 54).toNatClampNeg x1) 235 ((am_up (am_up M 205 0 0) 234 ((am_up M 205 0 0) 205 54).toNatClampNeg x1) 205 54).toNatClampNeg x2) 205 54 (((am_up (am_up (am_up M 205 0 0) 234 ((am_up M 205 0 0) 205 54).toNatClampNeg x1) 235 ((am_up (am_up M 205 0 0) 234 ((am_up M 205 0 0) 205 54).toNatClampNeg x1) 205 54).toNatClampNeg x2) 205 54) + 1))) else Q (some (.int (-1))) (hp nS (am_up M 205 0 0))) else Q (some (.int (-1))) (hp nS (am_up M 205 0 0))) else Q (some (.int (-1))) (hp nS (am_up M 205 0 0))) else Q (some (.int 0)) (hp nS (am_up (am_up M 205 0 0) 205 54 0))) := by
  rw [b_283_0]
  by_cases c1 : ¬ x1 = (-1)
  · rw [if_pos c1, if_pos c1]
    rw [b_283_17]
    rw [c_171]
    simp only [am_ans_some]
    rw [b_283_25]
    by_cases c2 : ¬ (x1 < (1 : Int32)) ∧ (¬ ((30 : Int32) < x1))
    · rw [if_pos c2, if_neg bn1, if_pos c2]
      rw [b_283_28]
      rw [c_171]
      simp only [am_ans_some]
      rw [b_283_36]
      by_cases c3 : ¬ (x2 < (1 : Int32)) ∧ (¬ ((99 : Int32) < x2))
      · rw [if_pos c3, if_neg bn1, if_pos c3]
        rw [b_283_39]
        by_cases c4 : ¬ ((am_up M 205 0 0) 205 54) = 8
        · rw [if_pos c4, if_pos c4]
          rw [b_283_50 (p1 c1 c2 c3 c4) (p2 c1 c2 c3 c4)]
        · rw [if_neg c4, if_neg c4]
          rw [b_283_48]
      · rw [if_neg c3, if_pos rfl, if_neg c3]
        rw [b_283_48]
    · rw [if_neg c2, if_pos rfl, if_neg c2]
      rw [b_283_48]
  · rw [if_neg c1, if_neg c1]
    rw [b_283_10]
-- stockAt(II)I
set_option maxRecDepth 20000 in
theorem c_173 {d nS : Nat} {x1 x2 : Int32} {M : am_M} {Q : Option Value → am_H → Prop} : am_Wp d 173 0 [.ref 205, .int x1, .int x2] [] (hp nS M) Q = Q (some (.int ((56 + (8 * x1)) + x2))) (hp nS M) := by
  rw [b_173_0]
-- finds(I)V
set_option maxRecDepth 20000 in
theorem c_113 {d nS : Nat} {x1 : Int32} {M : am_M} {Q : Option Value → am_H → Prop} (p1 : vp_in x1 6) (p2 : ¬ (¬ (M 22 x1.toNatClampNeg) = 1) → vp_in x1 6) (p3 : ¬ (¬ (M 22 x1.toNatClampNeg) = 1) → vp_in x1 6) : am_Wp d 113 0 [.ref 18, .int x1] [] (hp nS M) Q = (if ¬ (M 22 x1.toNatClampNeg) = 1 then Q none (hp nS M) else Q none (hp nS (am_up (am_up M 22 x1.toNatClampNeg 0) 20 x1.toNatClampNeg 0))) := by
  rw [b_113_0 p1]
  by_cases c1 : ¬ (M 22 x1.toNatClampNeg) = 1
  · rw [if_pos c1, if_pos c1]
    rw [b_113_24]
  · rw [if_neg c1, if_neg c1]
    rw [b_113_10 (p2 c1) (p3 c1)]
    rw [b_113_24]
-- isSought(I)V
set_option maxRecDepth 20000 in
theorem c_227 {d nS : Nat} {x1 : Int32} {M : am_M} {Q : Option Value → am_H → Prop} (p1 : vp_in (16 + x1) 136) (p2 : vp_in (4 + x1) 136) : am_Wp d 227 0 [.ref 205, .int x1] [] (hp nS M) Q = Q none (hp nS (am_up (am_up M 206 (16 + x1).toNatClampNeg 0) 206 (4 + x1).toNatClampNeg 0)) := by
  rw [b_227_0 p1 p2]
-- hasLark(I)Z
set_option maxRecDepth 20000 in
theorem c_104 {d nS : Nat} {x1 : Int32} {M : am_M} {Q : Option Value → am_H → Prop} : am_Wp d 104 0 [.ref 18, .int x1] [] (hp nS M) Q = Q (some (.int (if ¬ (x1 < 0) ∧ (¬ ((M 18 0) ≤ x1)) then 1 else 0))) (hp nS M) := by
  rw [b_104_0]
  by_cases c1 : x1 < 0
  · rw [if_pos c1]
    rw [b_104_16]
    rw [b_104_17 rok0]
    rw [if_neg (fun q => q.1 c1)]
  · rw [if_neg c1]
    rw [b_104_4]
    by_cases c2 : (M 18 0) ≤ x1
    · rw [if_pos c2]
      rw [b_104_16]
      rw [b_104_17 rok0]
      rw [if_neg (fun q => (fun q => q c2) q.2)]
    · rw [if_neg c2]
      rw [b_104_12]
      rw [b_104_17 rok1]
      rw [if_pos ⟨c1, c2⟩]
-- isLark(I)Z
set_option maxRecDepth 20000 in
theorem c_177 {d nS : Nat} {x1 : Int32} {M : am_M} {Q : Option Value → am_H → Prop} : am_Wp d 177 0 [.ref 205, .int x1] [] (hp nS M) Q = Q (some (.int (if ¬ (x1 < 0) ∧ (¬ ((M 205 8) ≤ x1)) then 1 else 0))) (hp nS M) := by
  rw [b_177_0]
  by_cases c1 : x1 < 0
  · rw [if_pos c1]
    rw [b_177_16]
    rw [b_177_17 rok0]
    rw [if_neg (fun q => q.1 c1)]
  · rw [if_neg c1]
    rw [b_177_4]
    by_cases c2 : (M 205 8) ≤ x1
    · rw [if_pos c2]
      rw [b_177_16]
      rw [b_177_17 rok0]
      rw [if_neg (fun q => (fun q => q c2) q.2)]
    · rw [if_neg c2]
      rw [b_177_12]
      rw [b_177_17 rok1]
      rw [if_pos ⟨c1, c2⟩]
-- hasGood(I)Z
set_option maxRecDepth 20000 in
theorem c_106 {d nS : Nat} {x1 : Int32} {M : am_M} {Q : Option Value → am_H → Prop} : am_Wp d 106 0 [.ref 18, .int x1] [] (hp nS M) Q = Q (some (.int (if ¬ (x1 < 0) ∧ (¬ ((M 18 1) ≤ x1)) then 1 else 0))) (hp nS M) := by
  rw [b_106_0]
  by_cases c1 : x1 < 0
  · rw [if_pos c1]
    rw [b_106_16]
    rw [b_106_17 rok0]
    rw [if_neg (fun q => q.1 c1)]
  · rw [if_neg c1]
    rw [b_106_4]
    by_cases c2 : (M 18 1) ≤ x1
    · rw [if_pos c2]
      rw [b_106_16]
      rw [b_106_17 rok0]
      rw [if_neg (fun q => (fun q => q c2) q.2)]
    · rw [if_neg c2]
      rw [b_106_12]
      rw [b_106_17 rok1]
      rw [if_pos ⟨c1, c2⟩]
-- isGood(I)Z
set_option maxRecDepth 20000 in
theorem c_178 {d nS : Nat} {x1 : Int32} {M : am_M} {Q : Option Value → am_H → Prop} : am_Wp d 178 0 [.ref 205, .int x1] [] (hp nS M) Q = Q (some (.int (if ¬ (x1 < 0) ∧ (¬ ((M 205 9) ≤ x1)) then 1 else 0))) (hp nS M) := by
  rw [b_178_0]
  by_cases c1 : x1 < 0
  · rw [if_pos c1]
    rw [b_178_16]
    rw [b_178_17 rok0]
    rw [if_neg (fun q => q.1 c1)]
  · rw [if_neg c1]
    rw [b_178_4]
    by_cases c2 : (M 205 9) ≤ x1
    · rw [if_pos c2]
      rw [b_178_16]
      rw [b_178_17 rok0]
      rw [if_neg (fun q => (fun q => q c2) q.2)]
    · rw [if_neg c2]
      rw [b_178_12]
      rw [b_178_17 rok1]
      rw [if_pos ⟨c1, c2⟩]
-- hasTrader(I)Z
set_option maxRecDepth 20000 in
theorem c_107 {d nS : Nat} {x1 : Int32} {M : am_M} {Q : Option Value → am_H → Prop} : am_Wp d 107 0 [.ref 18, .int x1] [] (hp nS M) Q = Q (some (.int (if ¬ (x1 < 0) ∧ (¬ ((M 18 2) ≤ x1)) then 1 else 0))) (hp nS M) := by
  rw [b_107_0]
  by_cases c1 : x1 < 0
  · rw [if_pos c1]
    rw [b_107_16]
    rw [b_107_17 rok0]
    rw [if_neg (fun q => q.1 c1)]
  · rw [if_neg c1]
    rw [b_107_4]
    by_cases c2 : (M 18 2) ≤ x1
    · rw [if_pos c2]
      rw [b_107_16]
      rw [b_107_17 rok0]
      rw [if_neg (fun q => (fun q => q c2) q.2)]
    · rw [if_neg c2]
      rw [b_107_12]
      rw [b_107_17 rok1]
      rw [if_pos ⟨c1, c2⟩]
-- stockOf(II)I
set_option maxRecDepth 20000 in
theorem c_110 {d nS : Nat} {x1 x2 : Int32} {M : am_M} {Q : Option Value → am_H → Prop} (p1 : vp_in ((x1 * 8) + x2) 80) : am_Wp d 110 0 [.ref 18, .int x1, .int x2] [] (hp nS M) Q = Q (some (.int (M 29 ((x1 * 8) + x2).toNatClampNeg))) (hp nS M) := by
  rw [b_110_0 p1]
-- isTrader(I)Z
set_option maxRecDepth 20000 in
theorem c_179 {d nS : Nat} {x1 : Int32} {M : am_M} {Q : Option Value → am_H → Prop} : am_Wp d 179 0 [.ref 205, .int x1] [] (hp nS M) Q = Q (some (.int (if ¬ (x1 < 0) ∧ (¬ ((M 205 10) ≤ x1)) then 1 else 0))) (hp nS M) := by
  rw [b_179_0]
  by_cases c1 : x1 < 0
  · rw [if_pos c1]
    rw [b_179_16]
    rw [b_179_17 rok0]
    rw [if_neg (fun q => q.1 c1)]
  · rw [if_neg c1]
    rw [b_179_4]
    by_cases c2 : (M 205 10) ≤ x1
    · rw [if_pos c2]
      rw [b_179_16]
      rw [b_179_17 rok0]
      rw [if_neg (fun q => (fun q => q c2) q.2)]
    · rw [if_neg c2]
      rw [b_179_12]
      rw [b_179_17 rok1]
      rw [if_pos ⟨c1, c2⟩]
-- isRuined(I)Z
set_option maxRecDepth 20000 in
theorem c_221 {d nS : Nat} {x1 : Int32} {M : am_M} {Q : Option Value → am_H → Prop} (p1 : vp_in (46 + x1) 136) : am_Wp d 221 0 [.ref 205, .int x1] [] (hp nS M) Q = Q (some (.int (if ¬ (¬ (M 206 (46 + x1).toNatClampNeg) = 1) then 1 else 0))) (hp nS M) := by
  rw [b_221_0 p1]
  by_cases c1 : ¬ (M 206 (46 + x1).toNatClampNeg) = 1
  · rw [if_pos c1]
    rw [b_221_17]
    rw [b_221_18 rok0]
    rw [if_neg (fun q => q c1)]
  · rw [if_neg c1]
    rw [b_221_13]
    rw [b_221_18 rok1]
    rw [if_pos c1]
-- apart(II)I
set_option maxRecDepth 20000 in
theorem c_263 {d nS : Nat} {x1 x2 : Int32} {M : am_M} {Q : Option Value → am_H → Prop} : am_Wp d 263 0 [.ref 205, .int x1, .int x2] [] (hp nS M) Q = Q (some (.int (if x1 ≤ x2 then (x2 - x1) else (x1 - x2)))) (hp nS M) := by
  rw [b_263_0]
  by_cases c1 : x1 ≤ x2
  · rw [if_pos c1, if_pos c1]
    rw [b_263_11]
    rw [b_263_14]
  · rw [if_neg c1, if_neg c1]
    rw [b_263_5]
    rw [b_263_14]
-- greater(II)I
set_option maxRecDepth 20000 in
theorem c_239 {d nS : Nat} {x1 x2 : Int32} {M : am_M} {Q : Option Value → am_H → Prop} : am_Wp d 239 0 [.ref 205, .int x1, .int x2] [] (hp nS M) Q = Q (some (.int (if x1 ≤ x2 then x2 else x1))) (hp nS M) := by
  rw [b_239_0]
  by_cases c1 : x1 ≤ x2
  · rw [if_pos c1, if_pos c1]
    rw [b_239_9]
    rw [b_239_10]
  · rw [if_neg c1, if_neg c1]
    rw [b_239_5]
    rw [b_239_10]
-- keeps(I)I
set_option maxRecDepth 20000 in
theorem c_291 {d nS : Nat} {x1 : Int32} {M : am_M} {Q : Option Value → am_H → Prop} (p1 : (¬ ((am_up M 205 61 ((M 205 61) + 1)) 205 59) = 0) → vp_in (((am_up M 205 61 ((M 205 61) + 1)) 205 61) - 1) 2200) (p2 : ¬ (¬ ((am_up M 205 61 ((M 205 61) + 1)) 205 59) = 0) → vp_in (((am_up M 205 61 ((M 205 61) + 1)) 205 61) - 1) 2200) : am_Wp d 291 0 [.ref 205, .int x1] [] (hp nS M) Q = (if ¬ ((am_up M 205 61 ((M 205 61) + 1)) 205 59) = 0 then Q (some (.int x1)) (hp nS (am_up (am_up M 205 61 ((M 205 61) + 1)) 238 (((am_up M 205 61 ((M 205 61) + 1)) 205 61) - 1).toNatClampNeg x1)) else Q (some (.int ((am_up M 205 61 ((M 205 61) + 1)) 238 (((am_up M 205 61 ((M 205 61) + 1)) 205 61) - 1).toNatClampNeg))) (hp nS (am_up M 205 61 ((M 205 61) + 1)))) := by
  rw [b_291_0]
  by_cases c1 : ¬ ((am_up M 205 61 ((M 205 61) + 1)) 205 59) = 0
  · rw [if_pos c1, if_pos c1]
    rw [b_291_29 (p1 c1)]
  · rw [if_neg c1, if_neg c1]
    rw [b_291_17 (p2 c1)]
-- canTrade(II)Z
set_option maxRecDepth 20000 in
theorem c_108 {d nS : Nat} {x1 x2 : Int32} {M : am_M} {Q : Option Value → am_H → Prop} (p1 : (¬ (x1 < 0) ∧ (¬ ((M 18 2) ≤ x1))) → (¬ (x2 < 0) ∧ (¬ ((M 18 1) ≤ x2))) → vp_in x1 10) : am_Wp (d + 1) 108 0 [.ref 18, .int x1, .int x2] [] (hp nS M) Q = Q (some (.int (if (¬ (x1 < 0) ∧ (¬ ((M 18 2) ≤ x1))) ∧ ((¬ (x2 < 0) ∧ (¬ ((M 18 1) ≤ x2))) ∧ (¬ (¬ (M 28 x1.toNatClampNeg) = 0))) then 1 else 0))) (hp nS M) := by
  rw [b_108_0]
  rw [c_107]
  simp only [am_ans_some]
  rw [b_108_5]
  by_cases c1 : ¬ (x1 < 0) ∧ (¬ ((M 18 2) ≤ x1))
  · rw [if_pos c1, if_neg bn1]
    rw [b_108_8]
    rw [c_106]
    simp only [am_ans_some]
    rw [b_108_13]
    by_cases c2 : ¬ (x2 < 0) ∧ (¬ ((M 18 1) ≤ x2))
    · rw [if_pos c2, if_neg bn1]
      rw [b_108_16 (p1 c1 c2)]
      by_cases c3 : ¬ (M 28 x1.toNatClampNeg) = 0
      · rw [if_pos c3]
        rw [b_108_29]
        rw [b_108_30 rok0]
        rw [if_neg (fun q => (fun q => (fun q => q c3) q.2) q.2)]
      · rw [if_neg c3]
        rw [b_108_25]
        rw [b_108_30 rok1]
        rw [if_pos ⟨c1, ⟨c2, c3⟩⟩]
    · rw [if_neg c2, if_pos rfl]
      rw [b_108_29]
      rw [b_108_30 rok0]
      rw [if_neg (fun q => (fun q => c2 q.1) q.2)]
  · rw [if_neg c1, if_pos rfl]
    rw [b_108_29]
    rw [b_108_30 rok0]
    rw [if_neg (fun q => c1 q.1)]
-- min(II)I
set_option maxRecDepth 20000 in
theorem c_296 {d nS : Nat} {x0 x1 : Int32} {M : am_M} {Q : Option Value → am_H → Prop} : am_Wp d 296 0 [.int x0, .int x1] [] (hp nS M) Q = Q (some (.int (if x1 < x0 then x1 else x0))) (hp nS M) := by
  rw [b_296_0]
  by_cases c1 : x1 < x0
  · rw [if_pos c1, if_pos c1]
    rw [b_296_9]
    rw [b_296_10]
  · rw [if_neg c1, if_neg c1]
    rw [b_296_5]
    rw [b_296_10]
-- affords(II)I
set_option maxRecDepth 20000 in
theorem c_109 {d nS : Nat} {x1 x2 : Int32} {M : am_M} {Q : Option Value → am_H → Prop} (p1 : vp_in x2 8) (p2 : ((M 26 x2.toNatClampNeg) ≤ 0) → vp_in ((x1 * 8) + x2) 80) (p3 : ¬ ((M 26 x2.toNatClampNeg) ≤ 0) → vp_in x1 10) (p4 : ¬ ((M 26 x2.toNatClampNeg) ≤ 0) → vp_in x2 8) (p5 : ¬ ((M 26 x2.toNatClampNeg) ≤ 0) → ¬ (M 26 x2.toNatClampNeg) = 0) (p6 : ¬ ((M 26 x2.toNatClampNeg) ≤ 0) → vp_in ((x1 * 8) + x2) 80) : am_Wp (d + 1) 109 0 [.ref 18, .int x1, .int x2, .retAddr 0] [] (hp nS M) Q = Q (some (.int (if (M 26 x2.toNatClampNeg) ≤ 0 then (if ((99 : Int32) - (M 29 ((x1 * 8) + x2).toNatClampNeg)) < (0 : Int32) then ((99 : Int32) - (M 29 ((x1 * 8) + x2).toNatClampNeg)) else (0 : Int32)) else (if ((99 : Int32) - (M 29 ((x1 * 8) + x2).toNatClampNeg)) < ((M 27 x1.toNatClampNeg) / (M 26 x2.toNatClampNeg)) then ((99 : Int32) - (M 29 ((x1 * 8) + x2).toNatClampNeg)) else ((M 27 x1.toNatClampNeg) / (M 26 x2.toNatClampNeg)))))) (hp nS M) := by
  rw [b_109_0 p1]
  by_cases c1 : (M 26 x2.toNatClampNeg) ≤ 0
  · rw [if_pos c1, if_pos c1]
    rw [b_109_25]
    rw [b_109_26]
    rw [c_110 (p2 c1)]
    simp only [am_ans_some]
    rw [b_109_36]
    rw [c_296]
    simp only [am_ans_some]
    rw [b_109_40]
  · rw [if_neg c1, if_neg c1]
    rw [b_109_9 (p3 c1) (p4 c1) (p5 c1)]
    rw [b_109_26]
    rw [c_110 (p6 c1)]
    simp only [am_ans_some]
    rw [b_109_36]
    rw [c_296]
    simp only [am_ans_some]
    rw [b_109_40]
-- moves(III)V
set_option maxRecDepth 20000 in
theorem c_112 {d nS : Nat} {x1 x2 x3 : Int32} {M : am_M} {Q : Option Value → am_H → Prop} (p1 : vp_in ((x1 * 8) + x2) 80) (p2 : vp_in ((x1 * 8) + x2) 80) (p3 : vp_in x1 10) (p4 : vp_in x2 8) (p5 : vp_in x1 10) : am_Wp d 112 0 [.ref 18, .int x1, .int x2, .int x3] [] (hp nS M) Q = Q none (hp nS (am_up (am_up M 29 ((x1 * 8) + x2).toNatClampNeg ((M 29 ((x1 * 8) + x2).toNatClampNeg) + x3)) 27 x1.toNatClampNeg (((am_up M 29 ((x1 * 8) + x2).toNatClampNeg ((M 29 ((x1 * 8) + x2).toNatClampNeg) + x3)) 27 x1.toNatClampNeg) - (x3 * ((am_up M 29 ((x1 * 8) + x2).toNatClampNeg ((M 29 ((x1 * 8) + x2).toNatClampNeg) + x3)) 26 x2.toNatClampNeg))))) := by
  rw [b_112_0 p1 p2 p3 p4 p5]
-- writes(LLarkExchange$World;IIIZ)V
set_option maxRecDepth 20000 in
theorem c_93 {d nS : Nat} {x2 x3 x4 x5 : Int32} {M : am_M} {Q : Option Value → am_H → Prop} (p1 : ¬ (x5 = 0) → ((M 18 6) < 150) → vp_in ((M 18 6) * 4) 600) (p2 : ¬ (x5 = 0) → ((M 18 6) < 150) → vp_in (((M 18 6) * 4) + 1) 600) (p3 : ¬ (x5 = 0) → ((M 18 6) < 150) → vp_in (((M 18 6) * 4) + 2) 600) (p4 : ¬ (x5 = 0) → ((M 18 6) < 150) → vp_in (((M 18 6) * 4) + 3) 600) : am_Wp d 93 0 [.ref 17, .ref 18, .int x2, .int x3, .int x4, .int x5, .retAddr 0] [] (hp nS M) Q = (if x5 = 0 then Q none (hp nS M) else (if (M 18 6) < 150 then Q none (hp nS (am_up (am_up (am_up (am_up (am_up M 30 ((M 18 6) * 4).toNatClampNeg (M 18 4)) 30 (((M 18 6) * 4) + 1).toNatClampNeg x2) 30 (((M 18 6) * 4) + 2).toNatClampNeg x3) 30 (((M 18 6) * 4) + 3).toNatClampNeg x4) 18 6 (((am_up (am_up (am_up (am_up M 30 ((M 18 6) * 4).toNatClampNeg (M 18 4)) 30 (((M 18 6) * 4) + 1).toNatClampNeg x2) 30 (((M 18 6) * 4) + 2).toNatClampNeg x3) 30 (((M 18 6) * 4) + 3).toNatClampNeg x4) 18 6) + 1))) else Q none (hp nS M))) := by
  rw [b_93_0]
  by_cases c1 : x5 = 0
  · rw [if_pos c1, if_pos c1]
    rw [b_93_15]
  · rw [if_neg c1, if_neg c1]
    rw [b_93_5]
    by_cases c2 : (M 18 6) < 150
    · rw [if_pos c2, if_pos c2]
      rw [b_93_16 (p1 c1 c2) (p2 c1 c2) (p3 c1 c2) (p4 c1 c2)]
    · rw [if_neg c2, if_neg c2]
      rw [b_93_15]
-- canTrade(III)Z
set_option maxRecDepth 20000 in
theorem c_220 {d nS : Nat} {x1 x2 x3 : Int32} {M : am_M} {Q : Option Value → am_H → Prop} (p1 : (¬ (x2 < 0) ∧ (¬ ((M 205 10) ≤ x2))) → (¬ (x3 < 0) ∧ (¬ ((M 205 9) ≤ x3))) → vp_in (46 + x2) 136) (p2 : (¬ (x2 < 0) ∧ (¬ ((M 205 10) ≤ x2))) → (¬ (x3 < 0) ∧ (¬ ((M 205 9) ≤ x3))) → ¬ (¬ (¬ (M 206 (46 + x2).toNatClampNeg) = 1)) → (¬ x1 = 0) → vp_in ((56 + (8 * x2)) + x3) 136) (p3 : (¬ (x2 < 0) ∧ (¬ ((M 205 10) ≤ x2))) → (¬ (x3 < 0) ∧ (¬ ((M 205 9) ≤ x3))) → ¬ (¬ (¬ (M 206 (46 + x2).toNatClampNeg) = 1)) → ¬ (¬ x1 = 0) → vp_in (36 + x2) 136) (p4 : (¬ (x2 < 0) ∧ (¬ ((M 205 10) ≤ x2))) → (¬ (x3 < 0) ∧ (¬ ((M 205 9) ≤ x3))) → ¬ (¬ (¬ (M 206 (46 + x2).toNatClampNeg) = 1)) → ¬ (¬ x1 = 0) → vp_in (28 + x3) 136) (p5 : (¬ (x2 < 0) ∧ (¬ ((M 205 10) ≤ x2))) → (¬ (x3 < 0) ∧ (¬ ((M 205 9) ≤ x3))) → ¬ (¬ (¬ (M 206 (46 + x2).toNatClampNeg) = 1)) → ¬ (¬ x1 = 0) → ¬ ((M 206 (36 + x2).toNatClampNeg) < (M 206 (28 + x3).toNatClampNeg)) → vp_in ((56 + (8 * x2)) + x3) 136) : am_Wp (d + 1) 220 0 [.ref 205, .int x1, .int x2, .int x3] [] (hp nS M) Q = Q (some (.int (if (¬ (x2 < 0) ∧ (¬ ((M 205 10) ≤ x2))) ∧ ((¬ (x3 < 0) ∧ (¬ ((M 205 9) ≤ x3))) ∧ (¬ (¬ (¬ (M 206 (46 + x2).toNatClampNeg) = 1)) ∧ (((¬ x1 = 0) ∧ (¬ ((M 206 ((56 + (8 * x2)) + x3).toNatClampNeg) ≤ 0))) ∨ (¬ (¬ x1 = 0) ∧ (¬ ((M 206 (36 + x2).toNatClampNeg) < (M 206 (28 + x3).toNatClampNeg)) ∧ (¬ (99 ≤ (M 206 ((56 + (8 * x2)) + x3).toNatClampNeg)))))))) then 1 else 0))) (hp nS M) := by
  rw [b_220_0]
  rw [c_179]
  simp only [am_ans_some]
  rw [b_220_5]
  by_cases c1 : ¬ (x2 < 0) ∧ (¬ ((M 205 10) ≤ x2))
  · rw [if_pos c1, if_neg bn1]
    rw [b_220_8]
    rw [c_178]
    simp only [am_ans_some]
    rw [b_220_13]
    by_cases c2 : ¬ (x3 < 0) ∧ (¬ ((M 205 9) ≤ x3))
    · rw [if_pos c2, if_neg bn1]
      rw [b_220_16]
      rw [c_221 (p1 c1 c2)]
      simp only [am_ans_some]
      rw [b_220_21]
      by_cases c3 : ¬ (¬ (M 206 (46 + x2).toNatClampNeg) = 1)
      · rw [if_pos c3, if_neg bn1]
        rw [b_220_24]
        rw [if_neg (fun q => (fun q => (fun q => q.1 c3) q.2) q.2)]
      · rw [if_neg c3, if_pos rfl]
        rw [b_220_26]
        by_cases c4 : ¬ x1 = 0
        · rw [if_pos c4]
          rw [b_220_73]
          rw [c_173]
          simp only [am_ans_some]
          rw [b_220_83 (p2 c1 c2 c3 c4)]
          by_cases c5 : (M 206 ((56 + (8 * x2)) + x3).toNatClampNeg) ≤ 0
          · rw [if_pos c5]
            rw [b_220_91]
            rw [b_220_92 rok0]
            rw [if_neg (fun q => (fun q => (fun q => (fun q => q.elim (fun q => (fun q => q c5) q.2) (fun q => q.1 c4)) q.2) q.2) q.2)]
          · rw [if_neg c5]
            rw [b_220_87]
            rw [b_220_92 rok1]
            rw [if_pos ⟨c1, ⟨c2, ⟨c3, (Or.inl ⟨c4, c5⟩)⟩⟩⟩]
        · rw [if_neg c4]
          rw [b_220_30 (p3 c1 c2 c3 c4) (p4 c1 c2 c3 c4)]
          by_cases c6 : (M 206 (36 + x2).toNatClampNeg) < (M 206 (28 + x3).toNatClampNeg)
          · rw [if_pos c6]
            rw [b_220_71]
            rw [b_220_72 rok0]
            rw [if_neg (fun q => (fun q => (fun q => (fun q => q.elim (fun q => c4 q.1) (fun q => (fun q => q.1 c6) q.2)) q.2) q.2) q.2)]
          · rw [if_neg c6]
            rw [b_220_51]
            rw [c_173]
            simp only [am_ans_some]
            rw [b_220_61 (p5 c1 c2 c3 c4 c6)]
            by_cases c7 : 99 ≤ (M 206 ((56 + (8 * x2)) + x3).toNatClampNeg)
            · rw [if_pos c7]
              rw [b_220_71]
              rw [b_220_72 rok0]
              rw [if_neg (fun q => (fun q => (fun q => (fun q => q.elim (fun q => c4 q.1) (fun q => (fun q => (fun q => q c7) q.2) q.2)) q.2) q.2) q.2)]
            · rw [if_neg c7]
              rw [b_220_67]
              rw [b_220_72 rok1]
              rw [if_pos ⟨c1, ⟨c2, ⟨c3, (Or.inr ⟨c4, ⟨c6, c7⟩⟩)⟩⟩⟩]
    · rw [if_neg c2, if_pos rfl]
      rw [b_220_24]
      rw [if_neg (fun q => (fun q => c2 q.1) q.2)]
  · rw [if_neg c1, if_pos rfl]
    rw [b_220_24]
    rw [if_neg (fun q => c1 q.1)]
-- isLost(I)Z
set_option maxRecDepth 20000 in
theorem c_222 {d nS : Nat} {x1 : Int32} {M : am_M} {Q : Option Value → am_H → Prop} (p1 : vp_in (16 + x1) 136) : am_Wp d 222 0 [.ref 205, .int x1] [] (hp nS M) Q = Q (some (.int (if ¬ (¬ (M 206 (16 + x1).toNatClampNeg) = 1) then 1 else 0))) (hp nS M) := by
  rw [b_222_0 p1]
  by_cases c1 : ¬ (M 206 (16 + x1).toNatClampNeg) = 1
  · rw [if_pos c1]
    rw [b_222_17]
    rw [b_222_18 rok0]
    rw [if_neg (fun q => q c1)]
  · rw [if_neg c1]
    rw [b_222_13]
    rw [b_222_18 rok1]
    rw [if_pos c1]
-- lesser(II)I
set_option maxRecDepth 20000 in
theorem c_225 {d nS : Nat} {x1 x2 : Int32} {M : am_M} {Q : Option Value → am_H → Prop} : am_Wp d 225 0 [.ref 205, .int x1, .int x2] [] (hp nS M) Q = Q (some (.int (if x2 ≤ x1 then x2 else x1))) (hp nS M) := by
  rw [b_225_0]
  by_cases c1 : x2 ≤ x1
  · rw [if_pos c1, if_pos c1]
    rw [b_225_9]
    rw [b_225_10]
  · rw [if_neg c1, if_neg c1]
    rw [b_225_5]
    rw [b_225_10]
-- notes(III)V
set_option maxRecDepth 20000 in
theorem c_226 {d nS : Nat} {x1 x2 x3 : Int32} {M : am_M} {Q : Option Value → am_H → Prop} (p1 : ¬ (¬ (M 205 7) = 0) → (¬ (M 206 2) = 150) → vp_in (4 * (M 206 2)) 600) (p2 : ¬ (¬ (M 205 7) = 0) → (¬ (M 206 2) = 150) → vp_in ((4 * (M 206 2)) + 1) 600) (p3 : ¬ (¬ (M 205 7) = 0) → (¬ (M 206 2) = 150) → vp_in ((4 * (M 206 2)) + 2) 600) (p4 : ¬ (¬ (M 205 7) = 0) → (¬ (M 206 2) = 150) → vp_in ((4 * (M 206 2)) + 3) 600) : am_Wp d 226 0 [.ref 205, .int x1, .int x2, .int x3, .retAddr 0] [] (hp nS M) Q = (if ¬ (M 205 7) = 0 then Q none (hp nS M) else (if ¬ (M 206 2) = 150 then Q none (hp nS (am_up (am_up (am_up (am_up (am_up M 211 (4 * (M 206 2)).toNatClampNeg (M 206 0)) 211 ((4 * (M 206 2)) + 1).toNatClampNeg x1) 211 ((4 * (M 206 2)) + 2).toNatClampNeg x2) 211 ((4 * (M 206 2)) + 3).toNatClampNeg x3) 206 2 (((am_up (am_up (am_up (am_up M 211 (4 * (M 206 2)).toNatClampNeg (M 206 0)) 211 ((4 * (M 206 2)) + 1).toNatClampNeg x1) 211 ((4 * (M 206 2)) + 2).toNatClampNeg x2) 211 ((4 * (M 206 2)) + 3).toNatClampNeg x3) 206 2) + 1))) else Q none (hp nS M))) := by
  rw [b_226_0]
  by_cases c1 : ¬ (M 205 7) = 0
  · rw [if_pos c1, if_pos c1]
    rw [b_226_19]
  · rw [if_neg c1, if_neg c1]
    rw [b_226_7]
    by_cases c2 : ¬ (M 206 2) = 150
    · rw [if_pos c2, if_pos c2]
      rw [b_226_20 (p1 c1 c2) (p2 c1 c2) (p3 c1 c2) (p4 c1 c2)]
    · rw [if_neg c2, if_neg c2]
      rw [b_226_19]
-- cell(II)I
set_option maxRecDepth 20000 in
theorem c_33 {d nS : Nat} {x1 x2 : Int32} {M : am_M} {Q : Option Value → am_H → Prop} (p1 : vp_in ((x1 * 5) + x2) 80) : am_Wp d 33 0 [.ref 41, .int x1, .int x2] [] (hp nS M) Q = Q (some (.int (M 42 ((x1 * 5) + x2).toNatClampNeg))) (hp nS M) := by
  rw [b_33_0 p1]
-- clears()V
set_option maxRecDepth 20000 in
theorem c_26 {d nS : Nat} {M : am_M} {Q : Option Value → am_H → Prop} : am_Wp d 26 0 [.ref 188] [] (hp nS M) Q = Q none (hp nS (am_up (am_up M 188 0 0) 188 1 0)) := by
  rw [b_26_0]
-- kind()I
set_option maxRecDepth 20000 in
theorem c_51 {d nS : Nat} {M : am_M} {Q : Option Value → am_H → Prop} (p1 : ¬ ((M 187 9) ≤ (M 187 10)) → vp_in (M 187 10) 401) : am_Wp d 51 0 [.ref 187] [] (hp nS M) Q = Q (some (.int (if (M 187 9) ≤ (M 187 10) then 37 else (M 199 (M 187 10).toNatClampNeg)))) (hp nS M) := by
  rw [b_51_0]
  by_cases c1 : (M 187 9) ≤ (M 187 10)
  · rw [if_pos c1, if_pos c1]
    rw [b_51_23]
    rw [b_51_25]
  · rw [if_neg c1, if_neg c1]
    rw [b_51_11 (p1 c1)]
    rw [b_51_25]
-- canBegin(I)Z
set_option maxRecDepth 20000 in
theorem c_52 {d nS : Nat} {x1 : Int32} {M : am_M} {Q : Option Value → am_H → Prop} (p1 : ¬ ((M 187 9) ≤ (M 187 10)) → vp_in (M 187 10) 401) : am_Wp (d + 1) 52 0 [.ref 187, .int x1, .retAddr 0] [] (hp nS M) Q = Q (some (.int (if ((¬ x1 = 0) ∧ (((¬ x1 = 3) ∧ (¬ (¬ (if (M 187 9) ≤ (M 187 10) then 37 else (M 199 (M 187 10).toNatClampNeg)) = 16))) ∨ (¬ (¬ x1 = 3) ∧ (¬ (¬ (if (M 187 9) ≤ (M 187 10) then 37 else (M 199 (M 187 10).toNatClampNeg)) = 24))))) ∨ (¬ (¬ x1 = 0) ∧ (((if (M 187 9) ≤ (M 187 10) then 37 else (M 199 (M 187 10).toNatClampNeg)) = 0) ∨ (((if (M 187 9) ≤ (M 187 10) then 37 else (M 199 (M 187 10).toNatClampNeg)) = 1) ∨ (¬ (¬ (if (M 187 9) ≤ (M 187 10) then 37 else (M 199 (M 187 10).toNatClampNeg)) = 2))))) then 1 else 0))) (hp nS M) := by
  rw [b_52_0]
  rw [c_51 p1]
  simp only [am_ans_some]
  rw [b_52_4]
  by_cases c1 : ¬ x1 = 0
  · rw [if_pos c1]
    rw [b_52_29]
    by_cases c2 : ¬ x1 = 3
    · rw [if_pos c2]
      rw [b_52_48]
      by_cases c3 : ¬ (if (M 187 9) ≤ (M 187 10) then 37 else (M 199 (M 187 10).toNatClampNeg)) = 16
      · rw [if_pos c3]
        rw [b_52_58]
        rw [b_52_59 rok0]
        rw [if_neg (fun q => q.elim (fun q => (fun q => q.elim (fun q => (fun q => q c3) q.2) (fun q => q.1 c2)) q.2) (fun q => q.1 c1))]
      · rw [if_neg c3]
        rw [b_52_54]
        rw [b_52_59 rok1]
        rw [if_pos (Or.inl ⟨c1, (Or.inl ⟨c2, c3⟩)⟩)]
    · rw [if_neg c2]
      rw [b_52_34]
      by_cases c4 : ¬ (if (M 187 9) ≤ (M 187 10) then 37 else (M 199 (M 187 10).toNatClampNeg)) = 24
      · rw [if_pos c4]
        rw [b_52_44]
        rw [b_52_59 rok0]
        rw [if_neg (fun q => q.elim (fun q => (fun q => q.elim (fun q => c2 q.1) (fun q => (fun q => q c4) q.2)) q.2) (fun q => q.1 c1))]
      · rw [if_neg c4]
        rw [b_52_40]
        rw [b_52_59 rok1]
        rw [if_pos (Or.inl ⟨c1, (Or.inr ⟨c2, c4⟩)⟩)]
  · rw [if_neg c1]
    rw [b_52_9]
    by_cases c5 : (if (M 187 9) ≤ (M 187 10) then 37 else (M 199 (M 187 10).toNatClampNeg)) = 0
    · rw [if_pos c5]
      rw [b_52_23]
      rw [b_52_28 rok1]
      rw [if_pos (Or.inr ⟨c1, (Or.inl c5)⟩)]
    · rw [if_neg c5]
      rw [b_52_13]
      by_cases c6 : (if (M 187 9) ≤ (M 187 10) then 37 else (M 199 (M 187 10).toNatClampNeg)) = 1
      · rw [if_pos c6]
        rw [b_52_23]
        rw [b_52_28 rok1]
        rw [if_pos (Or.inr ⟨c1, (Or.inr (Or.inl c6))⟩)]
      · rw [if_neg c6]
        rw [b_52_18]
        by_cases c7 : ¬ (if (M 187 9) ≤ (M 187 10) then 37 else (M 199 (M 187 10).toNatClampNeg)) = 2
        · rw [if_pos c7]
          rw [b_52_27]
          rw [b_52_28 rok0]
          rw [if_neg (fun q => q.elim (fun q => c1 q.1) (fun q => (fun q => q.elim c5 (fun q => q.elim c6 (fun q => q c7))) q.2))]
        · rw [if_neg c7]
          rw [b_52_23]
          rw [b_52_28 rok1]
          rw [if_pos (Or.inr ⟨c1, (Or.inr (Or.inr c7))⟩)]
-- fails(I)Z
set_option maxRecDepth 20000 in
theorem c_53 {d nS : Nat} {x1 : Int32} {M : am_M} {Q : Option Value → am_H → Prop} (p1 : ¬ (((am_up M 187 1 x1) 187 9) ≤ ((am_up M 187 1 x1) 187 10)) → vp_in ((am_up M 187 1 x1) 187 10) 401) : am_Wp d 53 0 [.ref 187, .int x1] [] (hp nS M) Q = (if ((am_up M 187 1 x1) 187 9) ≤ ((am_up M 187 1 x1) 187 10) then Q (some (.int 0)) (hp nS (am_up (am_up M 187 1 x1) 187 2 ((-1) : Int32))) else Q (some (.int 0)) (hp nS (am_up (am_up M 187 1 x1) 187 2 ((am_up M 187 1 x1) 201 ((am_up M 187 1 x1) 187 10).toNatClampNeg)))) := by
  rw [b_53_0]
  by_cases c1 : ((am_up M 187 1 x1) 187 9) ≤ ((am_up M 187 1 x1) 187 10)
  · rw [if_pos c1, if_pos c1]
    rw [b_53_29]
    rw [b_53_30]
  · rw [if_neg c1, if_neg c1]
    rw [b_53_17 (p1 c1)]
    rw [b_53_30]
-- takes(I)Z
set_option maxRecDepth 20000 in
theorem c_59 {d nS : Nat} {x1 : Int32} {M : am_M} {Q : Option Value → am_H → Prop} (p1 : ¬ ((M 187 9) ≤ (M 187 10)) → vp_in (M 187 10) 401) (p2 : ¬ ((if (M 187 9) ≤ (M 187 10) then 37 else (M 199 (M 187 10).toNatClampNeg)) = x1) → ¬ (((am_up M 187 1 (1 : Int32)) 187 9) ≤ ((am_up M 187 1 (1 : Int32)) 187 10)) → vp_in ((am_up M 187 1 (1 : Int32)) 187 10) 401) : am_Wp (d + 1) 59 0 [.ref 187, .int x1] [] (hp nS M) Q = (if (if (M 187 9) ≤ (M 187 10) then 37 else (M 199 (M 187 10).toNatClampNeg)) = x1 then Q (some (.int 1)) (hp nS (am_up M 187 10 ((M 187 10) + 1))) else (if ((am_up M 187 1 (1 : Int32)) 187 9) ≤ ((am_up M 187 1 (1 : Int32)) 187 10) then Q (some (.int 0)) (hp nS (am_up (am_up M 187 1 (1 : Int32)) 187 2 ((-1) : Int32))) else Q (some (.int 0)) (hp nS (am_up (am_up M 187 1 (1 : Int32)) 187 2 ((am_up M 187 1 (1 : Int32)) 201 ((am_up M 187 1 (1 : Int32)) 187 10).toNatClampNeg))))) := by
  rw [b_59_0]
  rw [c_51 p1]
  simp only [am_ans_some]
  rw [b_59_4]
  by_cases c1 : (if (M 187 9) ≤ (M 187 10) then 37 else (M 199 (M 187 10).toNatClampNeg)) = x1
  · rw [if_pos c1, if_pos c1]
    rw [b_59_14]
  · rw [if_neg c1, if_neg c1]
    rw [b_59_8]
    rw [c_53 (p2 c1)]
    by_cases c2 : ((am_up M 187 1 (1 : Int32)) 187 9) ≤ ((am_up M 187 1 (1 : Int32)) 187 10)
    · rw [if_pos c2, if_pos c2]
      simp only [am_ans_some]
      rw [b_59_13 rok0]
    · rw [if_neg c2, if_neg c2]
      simp only [am_ans_some]
      rw [b_59_13 rok0]
-- cell(II)I
set_option maxRecDepth 20000 in
theorem c_33i1 {d nS : Nat} {x1 x2 : Int32} {M : am_M} {Q : Option Value → am_H → Prop} (p1 : vp_in ((x1 * 5) + x2) 80) : am_Wp d 33 0 [.ref 39, .int x1, .int x2] [] (hp nS M) Q = Q (some (.int (M 40 ((x1 * 5) + x2).toNatClampNeg))) (hp nS M) := by
  rw [b_33i1_0 p1]
-- cell(II)I
set_option maxRecDepth 20000 in
theorem c_33i2 {d nS : Nat} {x1 x2 : Int32} {M : am_M} {Q : Option Value → am_H → Prop} (p1 : vp_in ((x1 * 5) + x2) 80) : am_Wp d 33 0 [.ref 43, .int x1, .int x2] [] (hp nS M) Q = Q (some (.int (M 44 ((x1 * 5) + x2).toNatClampNeg))) (hp nS M) := by
  rw [b_33i2_0 p1]
-- max(II)I
set_option maxRecDepth 20000 in
theorem c_297 {d nS : Nat} {x0 x1 : Int32} {M : am_M} {Q : Option Value → am_H → Prop} : am_Wp d 297 0 [.int x0, .int x1] [] (hp nS M) Q = Q (some (.int (if x0 < x1 then x1 else x0))) (hp nS M) := by
  rw [b_297_0]
  by_cases c1 : x0 < x1
  · rw [if_pos c1, if_pos c1]
    rw [b_297_9]
    rw [b_297_10]
  · rw [if_neg c1, if_neg c1]
    rw [b_297_5]
    rw [b_297_10]
-- held(II)I
set_option maxRecDepth 20000 in
theorem c_24 {d nS : Nat} {x0 x1 : Int32} {M : am_M} {Q : Option Value → am_H → Prop} : am_Wp (d + 1) 24 0 [.int x0, .int x1, .retAddr 0, .retAddr 0] [] (hp nS M) Q = Q (some (.int (if ¬ x0 = 2 then (if ¬ x0 = 0 then (if ¬ x0 = 1 then (if (0 : Int32) < (if x1 < (999 : Int32) then x1 else (999 : Int32)) then (if x1 < (999 : Int32) then x1 else (999 : Int32)) else (0 : Int32)) else (if (0 : Int32) < (if x1 < (1000 : Int32) then x1 else (1000 : Int32)) then (if x1 < (1000 : Int32) then x1 else (1000 : Int32)) else (0 : Int32))) else (if (0 : Int32) < (if x1 < (99 : Int32) then x1 else (99 : Int32)) then (if x1 < (99 : Int32) then x1 else (99 : Int32)) else (0 : Int32))) else (if ¬ x0 = 0 then (if ¬ x0 = 1 then (if (1 : Int32) < (if x1 < (999 : Int32) then x1 else (999 : Int32)) then (if x1 < (999 : Int32) then x1 else (999 : Int32)) else (1 : Int32)) else (if (1 : Int32) < (if x1 < (1000 : Int32) then x1 else (1000 : Int32)) then (if x1 < (1000 : Int32) then x1 else (1000 : Int32)) else (1 : Int32))) else (if (1 : Int32) < (if x1 < (99 : Int32) then x1 else (99 : Int32)) then (if x1 < (99 : Int32) then x1 else (99 : Int32)) else (1 : Int32)))))) (hp nS M) := by
  rw [b_24_0]
  by_cases c1 : ¬ x0 = 2
  · rw [if_pos c1, if_pos c1]
    rw [b_24_9]
    rw [b_24_10]
    by_cases c2 : ¬ x0 = 0
    · rw [if_pos c2, if_pos c2]
      rw [b_24_20]
      by_cases c3 : ¬ x0 = 1
      · rw [if_pos c3, if_pos c3]
        rw [b_24_31]
        rw [b_24_34]
        rw [c_296]
        simp only [am_ans_some]
        rw [b_24_41]
        rw [c_297]
        simp only [am_ans_some]
        rw [b_24_44]
      · rw [if_neg c3, if_neg c3]
        rw [b_24_25]
        rw [b_24_34]
        rw [c_296]
        simp only [am_ans_some]
        rw [b_24_41]
        rw [c_297]
        simp only [am_ans_some]
        rw [b_24_44]
    · rw [if_neg c2, if_neg c2]
      rw [b_24_15]
      rw [b_24_34]
      rw [c_296]
      simp only [am_ans_some]
      rw [b_24_41]
      rw [c_297]
      simp only [am_ans_some]
      rw [b_24_44]
  · rw [if_neg c1, if_neg c1]
    rw [b_24_5]
    rw [b_24_10]
    by_cases c4 : ¬ x0 = 0
    · rw [if_pos c4, if_pos c4]
      rw [b_24_20]
      by_cases c5 : ¬ x0 = 1
      · rw [if_pos c5, if_pos c5]
        rw [b_24_31]
        rw [b_24_34]
        rw [c_296]
        simp only [am_ans_some]
        rw [b_24_41]
        rw [c_297]
        simp only [am_ans_some]
        rw [b_24_44]
      · rw [if_neg c5, if_neg c5]
        rw [b_24_25]
        rw [b_24_34]
        rw [c_296]
        simp only [am_ans_some]
        rw [b_24_41]
        rw [c_297]
        simp only [am_ans_some]
        rw [b_24_44]
    · rw [if_neg c4, if_neg c4]
      rw [b_24_15]
      rw [b_24_34]
      rw [c_296]
      simp only [am_ans_some]
      rw [b_24_41]
      rw [c_297]
      simp only [am_ans_some]
      rw [b_24_44]
-- usual(ILLarkExchange$World;II)I
set_option maxRecDepth 20000 in
theorem c_25 {d nS : Nat} {x0 x2 x3 : Int32} {M : am_M} {Q : Option Value → am_H → Prop} (p1 : (¬ x0 = 2) → (¬ (x2 < 0) ∧ (¬ ((M 18 0) ≤ x2))) → (¬ x0 = 0) → vp_in x2 6) (p2 : (¬ x0 = 2) → (¬ (x2 < 0) ∧ (¬ ((M 18 0) ≤ x2))) → (¬ x0 = 0) → vp_in x2 6) (p3 : (¬ x0 = 2) → (¬ (x2 < 0) ∧ (¬ ((M 18 0) ≤ x2))) → ¬ (¬ x0 = 0) → vp_in x2 6) (p4 : ¬ (¬ x0 = 2) → (¬ (x3 < 0) ∧ (¬ ((M 18 1) ≤ x3))) → vp_in x3 8) (p5 : ¬ (¬ x0 = 2) → (¬ (x3 < 0) ∧ (¬ ((M 18 1) ≤ x3))) → (¬ (x2 < 0) ∧ (¬ ((M 18 0) ≤ x2))) → vp_in x2 6) (p6 : ¬ (¬ x0 = 2) → ¬ (¬ (x3 < 0) ∧ (¬ ((M 18 1) ≤ x3))) → (¬ (x2 < 0) ∧ (¬ ((M 18 0) ≤ x2))) → vp_in x2 6) : am_Wp (d + 1) 25 0 [.int x0, .ref 18, .int x2, .int x3, .retAddr 0, .retAddr 0] [] (hp nS M) Q = Q (some (.int (if ¬ x0 = 2 then (if ¬ (x2 < 0) ∧ (¬ ((M 18 0) ≤ x2)) then (if ¬ x0 = 0 then ((100 + (100 * (M 23 x2.toNatClampNeg))) - (10 * (M 19 x2.toNatClampNeg))) else (5 + (M 19 x2.toNatClampNeg))) else 0) else (if ¬ (x3 < 0) ∧ (¬ ((M 18 1) ≤ x3)) then (if ¬ (x2 < 0) ∧ (¬ ((M 18 0) ≤ x2)) then ((M 24 x3.toNatClampNeg) + ((M 20 x2.toNatClampNeg) / 10)) else (M 24 x3.toNatClampNeg)) else (if ¬ (x2 < 0) ∧ (¬ ((M 18 0) ≤ x2)) then ((0 : Int32) + ((M 20 x2.toNatClampNeg) / 10)) else 0))))) (hp nS M) := by
  rw [b_25_0]
  rw [c_104]
  simp only [am_ans_some]
  rw [b_25_5]
  by_cases c1 : ¬ x0 = 2
  · rw [if_pos c1, if_pos c1]
    rw [b_25_55]
    by_cases c2 : ¬ (x2 < 0) ∧ (¬ ((M 18 0) ≤ x2))
    · rw [if_pos c2, if_pos bn1, if_pos c2]
      rw [b_25_62]
      by_cases c3 : ¬ x0 = 0
      · rw [if_pos c3, if_pos c3]
        rw [b_25_77 (p1 c1 c2 c3) (p2 c1 c2 c3)]
        rw [b_25_99]
      · rw [if_neg c3, if_neg c3]
        rw [b_25_66 (p3 c1 c2 c3)]
        rw [b_25_99]
    · rw [if_neg c2, if_neg bn0, if_neg c2]
      rw [b_25_60]
  · rw [if_neg c1, if_neg c1]
    rw [b_25_12]
    rw [c_106]
    simp only [am_ans_some]
    rw [b_25_17]
    by_cases c4 : ¬ (x3 < 0) ∧ (¬ ((M 18 1) ≤ x3))
    · rw [if_pos c4, if_neg bn1, if_pos c4]
      rw [b_25_20 (p4 c1 c4)]
      rw [b_25_30]
      by_cases c5 : ¬ (x2 < 0) ∧ (¬ ((M 18 0) ≤ x2))
      · rw [if_pos c5, if_neg bn1, if_pos c5]
        rw [b_25_37 (p5 c1 c4 c5)]
        rw [b_25_54]
      · rw [if_neg c5, if_pos rfl, if_neg c5]
        rw [b_25_52]
        rw [b_25_54]
    · rw [if_neg c4, if_pos rfl, if_neg c4]
      rw [b_25_29]
      rw [b_25_30]
      by_cases c6 : ¬ (x2 < 0) ∧ (¬ ((M 18 0) ≤ x2))
      · rw [if_pos c6, if_neg bn1, if_pos c6]
        rw [b_25_37 (p6 c1 c4 c6)]
        rw [b_25_54]
      · rw [if_neg c6, if_pos rfl, if_neg c6]
        rw [b_25_52]
        rw [b_25_54]
-- has(II)Z
set_option maxRecDepth 20000 in
theorem c_267 {d nS : Nat} {x1 x2 : Int32} {M : am_M} {Q : Option Value → am_H → Prop} : am_Wp d 267 0 [.ref 205, .int x1, .int x2] [] (hp nS M) Q = Q (some (.int (if ¬ (¬ ((x1 >>> (x2 &&& 31)) &&& 1) = 1) then 1 else 0))) (hp nS M) := by
  rw [b_267_0]
  by_cases c1 : ¬ ((x1 >>> (x2 &&& 31)) &&& 1) = 1
  · rw [if_pos c1]
    rw [b_267_13]
    rw [b_267_14 rok0]
    rw [if_neg (fun q => q c1)]
  · rw [if_neg c1]
    rw [b_267_9]
    rw [b_267_14 rok1]
    rw [if_pos c1]
-- canGo(II)Z
set_option maxRecDepth 20000 in
theorem c_282 {d nS : Nat} {x1 x2 : Int32} {M : am_M} {Q : Option Value → am_H → Prop} (p1 : ¬ (x1 = x2) → vp_in x1 8) : am_Wp (d + 1) 282 0 [.ref 205, .int x1, .int x2] [] (hp nS M) Q = Q (some (.int (if (x1 = x2) ∨ (¬ (¬ (((M 232 x1.toNatClampNeg) >>> (x2 &&& 31)) &&& 1) = 1)) then 1 else 0))) (hp nS M) := by
  rw [b_282_0]
  by_cases c1 : x1 = x2
  · rw [if_pos c1]
    rw [b_282_19]
    rw [b_282_24 rok1]
    rw [if_pos (Or.inl c1)]
  · rw [if_neg c1]
    rw [b_282_5 (p1 c1)]
    rw [c_267]
    simp only [am_ans_some]
    rw [b_282_16]
    by_cases c2 : ¬ (¬ (((M 232 x1.toNatClampNeg) >>> (x2 &&& 31)) &&& 1) = 1)
    · rw [if_pos c2, if_neg bn1]
      rw [b_282_19]
      rw [b_282_24 rok1]
      rw [if_pos (Or.inr c2)]
    · rw [if_neg c2, if_pos rfl]
      rw [b_282_23]
      rw [b_282_24 rok0]
      rw [if_neg (fun q => q.elim c1 c2)]
-- rises(II)V
set_option maxRecDepth 20000 in
theorem c_114 {d nS : Nat} {x1 x2 : Int32} {M : am_M} {Q : Option Value → am_H → Prop} (p1 : vp_in x1 6) (p2 : vp_in x1 6) (p3 : vp_in x1 6) (p4 : vp_in x1 6) (p5 : vp_in x1 6) : am_Wp (d + 1) 114 0 [.ref 18, .int x1, .int x2] [] (hp nS M) Q = Q none (hp nS (am_up (am_up M 20 x1.toNatClampNeg (if ((M 20 x1.toNatClampNeg) + x2) < (999 : Int32) then ((M 20 x1.toNatClampNeg) + x2) else (999 : Int32))) 21 x1.toNatClampNeg (if ((am_up M 20 x1.toNatClampNeg (if ((M 20 x1.toNatClampNeg) + x2) < (999 : Int32) then ((M 20 x1.toNatClampNeg) + x2) else (999 : Int32))) 21 x1.toNatClampNeg) < ((am_up M 20 x1.toNatClampNeg (if ((M 20 x1.toNatClampNeg) + x2) < (999 : Int32) then ((M 20 x1.toNatClampNeg) + x2) else (999 : Int32))) 20 x1.toNatClampNeg) then ((am_up M 20 x1.toNatClampNeg (if ((M 20 x1.toNatClampNeg) + x2) < (999 : Int32) then ((M 20 x1.toNatClampNeg) + x2) else (999 : Int32))) 20 x1.toNatClampNeg) else ((am_up M 20 x1.toNatClampNeg (if ((M 20 x1.toNatClampNeg) + x2) < (999 : Int32) then ((M 20 x1.toNatClampNeg) + x2) else (999 : Int32))) 21 x1.toNatClampNeg)))) := by
  rw [b_114_0 p1]
  rw [c_296]
  simp only [am_ans_some]
  rw [b_114_19 p2 p3 p4]
  rw [c_297]
  simp only [am_ans_some]
  rw [b_114_40 p5]
-- draw(I)I
set_option maxRecDepth 20000 in
theorem c_115 {d nS : Nat} {x1 : Int32} {M : am_M} {Q : Option Value → am_H → Prop} (p1 : ¬ (x1 ≤ 0) → ¬ x1 = 0) : am_Wp d 115 0 [.ref 18, .int x1] [] (hp nS M) Q = (if x1 ≤ 0 then Q (some (.int 0)) (hp nS (am_up M 18 5 (((M 18 5) * 1664525) + 1013904223))) else Q (some (.int (((((am_up M 18 5 (((M 18 5) * 1664525) + 1013904223)) 18 5).toUInt32 >>> ((8 : Int32).toUInt32 &&& Int32.toUInt32 31)).toInt32) - ((((am_up M 18 5 (((M 18 5) * 1664525) + 1013904223)) 18 5).toUInt32 >>> ((8 : Int32).toUInt32 &&& Int32.toUInt32 31)).toInt32) / x1 * x1))) (hp nS (am_up M 18 5 (((M 18 5) * 1664525) + 1013904223)))) := by
  rw [b_115_0]
  by_cases c1 : x1 ≤ 0
  · rw [if_pos c1, if_pos c1]
    rw [b_115_30]
    rw [b_115_31]
  · rw [if_neg c1, if_neg c1]
    rw [b_115_18 (p1 c1)]
    rw [b_115_31]
-- draw(I)I
set_option maxRecDepth 20000 in
theorem c_242 {d nS : Nat} {x1 : Int32} {M : am_M} {Q : Option Value → am_H → Prop} (p1 : ¬ x1 = 0) : am_Wp d 242 0 [.ref 205, .int x1] [] (hp nS M) Q = Q (some (.int (((((am_up M 206 1 ((1664525 * (M 206 1)) + 1013904223)) 206 1).toUInt32 >>> ((8 : Int32).toUInt32 &&& Int32.toUInt32 31)).toInt32) - ((((am_up M 206 1 ((1664525 * (M 206 1)) + 1013904223)) 206 1).toUInt32 >>> ((8 : Int32).toUInt32 &&& Int32.toUInt32 31)).toInt32) / x1 * x1))) (hp nS (am_up M 206 1 ((1664525 * (M 206 1)) + 1013904223))) := by
  rw [b_242_0 p1]
-- happens(I)Z
set_option maxRecDepth 20000 in
theorem c_241 {d nS : Nat} {x1 : Int32} {M : am_M} {Q : Option Value → am_H → Prop} (p1 : ((M 205 7) = 0) → ¬ (x1 ≤ 0) → ¬ (1000 : Int32) = 0) : am_Wp (d + 1) 241 0 [.ref 205, .int x1] [] (hp nS M) Q = (if (M 205 7) = 0 then (if x1 ≤ 0 then Q (some (.int 0)) (hp nS M) else (if x1 ≤ (((((am_up M 206 1 ((1664525 * (M 206 1)) + 1013904223)) 206 1).toUInt32 >>> ((8 : Int32).toUInt32 &&& Int32.toUInt32 31)).toInt32) - ((((am_up M 206 1 ((1664525 * (M 206 1)) + 1013904223)) 206 1).toUInt32 >>> ((8 : Int32).toUInt32 &&& Int32.toUInt32 31)).toInt32) / (1000 : Int32) * (1000 : Int32)) then Q (some (.int 0)) (hp nS (am_up M 206 1 ((1664525 * (M 206 1)) + 1013904223))) else Q (some (.int 1)) (hp nS (am_up M 206 1 ((1664525 * (M 206 1)) + 1013904223))))) else (if (2 * x1) < 1000 then Q (some (.int 0)) (hp nS M) else Q (some (.int 1)) (hp nS M))) := by
  rw [b_241_0]
  by_cases c1 : (M 205 7) = 0
  · rw [if_pos c1, if_pos c1]
    rw [b_241_24]
    by_cases c2 : x1 ≤ 0
    · rw [if_pos c2, if_pos c2]
      rw [b_241_43]
      rw [b_241_44 rok0]
    · rw [if_neg c2, if_neg c2]
      rw [b_241_28]
      rw [c_242 (p1 c1 c2)]
      simp only [am_ans_some]
      rw [b_241_35]
      by_cases c3 : x1 ≤ (((((am_up M 206 1 ((1664525 * (M 206 1)) + 1013904223)) 206 1).toUInt32 >>> ((8 : Int32).toUInt32 &&& Int32.toUInt32 31)).toInt32) - ((((am_up M 206 1 ((1664525 * (M 206 1)) + 1013904223)) 206 1).toUInt32 >>> ((8 : Int32).toUInt32 &&& Int32.toUInt32 31)).toInt32) / (1000 : Int32) * (1000 : Int32))
      · rw [if_pos c3, if_pos c3]
        rw [b_241_43]
        rw [b_241_44 rok0]
      · rw [if_neg c3, if_neg c3]
        rw [b_241_39]
        rw [b_241_44 rok1]
  · rw [if_neg c1, if_neg c1]
    rw [b_241_7]
    by_cases c4 : (2 * x1) < 1000
    · rw [if_pos c4, if_pos c4]
      rw [b_241_20]
      rw [b_241_44 rok0]
    · rw [if_neg c4, if_neg c4]
      rw [b_241_16]
      rw [b_241_44 rok1]
-- keeps(III)V
set_option maxRecDepth 20000 in
theorem c_49 {d nS : Nat} {x1 x2 x3 : Int32} {M : am_M} {Q : Option Value → am_H → Prop} (p1 : ¬ (400 < (M 187 9)) → vp_in (M 187 9) 401) (p2 : ¬ (400 < (M 187 9)) → vp_in ((am_up M 199 (M 187 9).toNatClampNeg x1) 187 9) 401) (p3 : ¬ (400 < (M 187 9)) → vp_in ((am_up (am_up M 199 (M 187 9).toNatClampNeg x1) 201 ((am_up M 199 (M 187 9).toNatClampNeg x1) 187 9).toNatClampNeg x2) 187 9) 401) : am_Wp d 49 0 [.ref 187, .int x1, .int x2, .int x3] [] (hp nS M) Q = (if 400 < (M 187 9) then Q none (hp nS M) else Q none (hp nS (am_up (am_up (am_up (am_up M 199 (M 187 9).toNatClampNeg x1) 201 ((am_up M 199 (M 187 9).toNatClampNeg x1) 187 9).toNatClampNeg x2) 200 ((am_up (am_up M 199 (M 187 9).toNatClampNeg x1) 201 ((am_up M 199 (M 187 9).toNatClampNeg x1) 187 9).toNatClampNeg x2) 187 9).toNatClampNeg x3) 187 9 (((am_up (am_up (am_up M 199 (M 187 9).toNatClampNeg x1) 201 ((am_up M 199 (M 187 9).toNatClampNeg x1) 187 9).toNatClampNeg x2) 200 ((am_up (am_up M 199 (M 187 9).toNatClampNeg x1) 201 ((am_up M 199 (M 187 9).toNatClampNeg x1) 187 9).toNatClampNeg x2) 187 9).toNatClampNeg x3) 187 9) + 1)))) := by
  rw [b_49_0]
  by_cases c1 : 400 < (M 187 9)
  · rw [if_pos c1, if_pos c1]
    rw [b_49_50]
  · rw [if_neg c1, if_neg c1]
    rw [b_49_10 (p1 c1) (p2 c1) (p3 c1)]
    rw [b_49_50]
-- isDigit(I)Z
set_option maxRecDepth 20000 in
theorem c_45 {d nS : Nat} {x1 : Int32} {M : am_M} {Q : Option Value → am_H → Prop} (p1 : ¬ ((M 187 0) ≤ x1) → vp_in x1 400) (p2 : ¬ ((M 187 0) ≤ x1) → ¬ ((M 198 x1.toNatClampNeg) < 48) → vp_in x1 400) : am_Wp d 45 0 [.ref 187, .int x1] [] (hp nS M) Q = Q (some (.int (if ¬ ((M 187 0) ≤ x1) ∧ (¬ ((M 198 x1.toNatClampNeg) < 48) ∧ (¬ (57 < (M 198 x1.toNatClampNeg)))) then 1 else 0))) (hp nS M) := by
  rw [b_45_0]
  by_cases c1 : (M 187 0) ≤ x1
  · rw [if_pos c1]
    rw [b_45_34]
    rw [b_45_35 rok0]
    rw [if_neg (fun q => q.1 c1)]
  · rw [if_neg c1]
    rw [b_45_8 (p1 c1)]
    by_cases c2 : (M 198 x1.toNatClampNeg) < 48
    · rw [if_pos c2]
      rw [b_45_34]
      rw [b_45_35 rok0]
      rw [if_neg (fun q => (fun q => q.1 c2) q.2)]
    · rw [if_neg c2]
      rw [b_45_19 (p2 c1 c2)]
      by_cases c3 : 57 < (M 198 x1.toNatClampNeg)
      · rw [if_pos c3]
        rw [b_45_34]
        rw [b_45_35 rok0]
        rw [if_neg (fun q => (fun q => (fun q => q c3) q.2) q.2)]
      · rw [if_neg c3]
        rw [b_45_30]
        rw [b_45_35 rok1]
        rw [if_pos ⟨c1, ⟨c2, c3⟩⟩]
-- opens(I)V
set_option maxRecDepth 20000 in
theorem c_27 {d nS : Nat} {x1 : Int32} {M : am_M} {Q : Option Value → am_H → Prop} (p1 : ¬ (16 ≤ (M 188 0)) → vp_in (M 188 0) 16) (p2 : ¬ (16 ≤ (M 188 0)) → vp_in ((am_up M 189 (M 188 0).toNatClampNeg x1) 188 0) 16) : am_Wp d 27 0 [.ref 188, .int x1] [] (hp nS M) Q = (if 16 ≤ (M 188 0) then Q none (hp nS M) else Q none (hp nS (am_up (am_up M 189 (M 188 0).toNatClampNeg x1) 190 ((am_up M 189 (M 188 0).toNatClampNeg x1) 188 0).toNatClampNeg ((am_up M 189 (M 188 0).toNatClampNeg x1) 188 1)))) := by
  rw [b_27_0]
  by_cases c1 : 16 ≤ (M 188 0)
  · rw [if_pos c1, if_pos c1]
    rw [b_27_32]
  · rw [if_neg c1, if_neg c1]
    rw [b_27_9 (p1 c1) (p2 c1)]
    rw [b_27_32]
-- turnsToWhen()V
set_option maxRecDepth 20000 in
theorem c_29 {d nS : Nat} {M : am_M} {Q : Option Value → am_H → Prop} (p1 : ¬ (16 ≤ (M 188 0)) → vp_in (M 188 0) 16) : am_Wp d 29 0 [.ref 188] [] (hp nS M) Q = (if 16 ≤ (M 188 0) then Q none (hp nS M) else Q none (hp nS (am_up M 191 (M 188 0).toNatClampNeg (M 188 1)))) := by
  rw [b_29_0]
  by_cases c1 : 16 ≤ (M 188 0)
  · rw [if_pos c1, if_pos c1]
    rw [b_29_22]
  · rw [if_neg c1, if_neg c1]
    rw [b_29_9 (p1 c1)]
    rw [b_29_22]
-- closes()V
set_option maxRecDepth 20000 in
theorem c_30 {d nS : Nat} {M : am_M} {Q : Option Value → am_H → Prop} (p1 : ¬ (16 ≤ (M 188 0)) → vp_in (M 188 0) 16) : am_Wp d 30 0 [.ref 188] [] (hp nS M) Q = (if 16 ≤ (M 188 0) then Q none (hp nS M) else Q none (hp nS (am_up (am_up M 192 (M 188 0).toNatClampNeg (M 188 1)) 188 0 (((am_up M 192 (M 188 0).toNatClampNeg (M 188 1)) 188 0) + 1)))) := by
  rw [b_30_0]
  by_cases c1 : 16 ≤ (M 188 0)
  · rw [if_pos c1, if_pos c1]
    rw [b_30_32]
  · rw [if_neg c1, if_neg c1]
    rw [b_30_9 (p1 c1)]
    rw [b_30_32]
-- takesNumber(II)I
set_option maxRecDepth 20000 in
theorem c_61 {d nS : Nat} {x1 x2 : Int32} {M : am_M} {Q : Option Value → am_H → Prop} (p1 : ¬ ((M 187 9) ≤ (M 187 10)) → vp_in (M 187 10) 401) (p2 : ((if (M 187 9) ≤ (M 187 10) then 37 else (M 199 (M 187 10).toNatClampNeg)) = 36) → vp_in (M 187 10) 401) (p3 : ((if (M 187 9) ≤ (M 187 10) then 37 else (M 199 (M 187 10).toNatClampNeg)) = 36) → ((M 200 (M 187 10).toNatClampNeg) < x1) → ¬ (((am_up M 187 1 (2 : Int32)) 187 9) ≤ ((am_up M 187 1 (2 : Int32)) 187 10)) → vp_in ((am_up M 187 1 (2 : Int32)) 187 10) 401) (p4 : ((if (M 187 9) ≤ (M 187 10) then 37 else (M 199 (M 187 10).toNatClampNeg)) = 36) → ¬ ((M 200 (M 187 10).toNatClampNeg) < x1) → ¬ ((M 200 (M 187 10).toNatClampNeg) ≤ x2) → ¬ (((am_up M 187 1 (2 : Int32)) 187 9) ≤ ((am_up M 187 1 (2 : Int32)) 187 10)) → vp_in ((am_up M 187 1 (2 : Int32)) 187 10) 401) (p5 : ¬ ((if (M 187 9) ≤ (M 187 10) then 37 else (M 199 (M 187 10).toNatClampNeg)) = 36) → ¬ (((am_up M 187 1 (1 : Int32)) 187 9) ≤ ((am_up M 187 1 (1 : Int32)) 187 10)) → vp_in ((am_up M 187 1 (1 : Int32)) 187 10) 401) : am_Wp (d + 1) 61 0 [.ref 187, .int x1, .int x2, .retAddr 0] [] (hp nS M) Q = (if (if (M 187 9) ≤ (M 187 10) then 37 else (M 199 (M 187 10).toNatClampNeg)) = 36 then (if (M 200 (M 187 10).toNatClampNeg) < x1 then (if ((am_up M 187 1 (2 : Int32)) 187 9) ≤ ((am_up M 187 1 (2 : Int32)) 187 10) then Q (some (.int (-1))) (hp nS (am_up (am_up M 187 1 (2 : Int32)) 187 2 ((-1) : Int32))) else Q (some (.int (-1))) (hp nS (am_up (am_up M 187 1 (2 : Int32)) 187 2 ((am_up M 187 1 (2 : Int32)) 201 ((am_up M 187 1 (2 : Int32)) 187 10).toNatClampNeg)))) else (if (M 200 (M 187 10).toNatClampNeg) ≤ x2 then Q (some (.int (M 200 (M 187 10).toNatClampNeg))) (hp nS (am_up M 187 10 ((M 187 10) + 1))) else (if ((am_up M 187 1 (2 : Int32)) 187 9) ≤ ((am_up M 187 1 (2 : Int32)) 187 10) then Q (some (.int (-1))) (hp nS (am_up (am_up M 187 1 (2 : Int32)) 187 2 ((-1) : Int32))) else Q (some (.int (-1))) (hp nS (am_up (am_up M 187 1 (2 : Int32)) 187 2 ((am_up M 187 1 (2 : Int32)) 201 ((am_up M 187 1 (2 : Int32)) 187 10).toNatClampNeg)))))) else (if ((am_up M 187 1 (1 : Int32)) 187 9) ≤ ((am_up M 187 1 (1 : Int32)) 187 10) then Q (some (.int (-1))) (hp nS (am_up (am_up M 187 1 (1 : Int32)) 187 2 ((-1) : Int32))) else Q (some (.int (-1))) (hp nS (am_up (am_up M 187 1 (1 : Int32)) 187 2 ((am_up M 187 1 (1 : Int32)) 201 ((am_up M 187 1 (1 : Int32)) 187 10).toNatClampNeg))))) := by
  rw [b_61_0]
  rw [c_51 p1]
  simp only [am_ans_some]
  rw [b_61_4]
  by_cases c1 : (if (M 187 9) ≤ (M 187 10) then 37 else (M 199 (M 187 10).toNatClampNeg)) = 36
  · rw [if_pos c1, if_pos c1]
    rw [b_61_17 (p2 c1)]
    by_cases c2 : (M 200 (M 187 10).toNatClampNeg) < x1
    · rw [if_pos c2, if_pos c2]
      rw [b_61_37]
      rw [c_53 (p3 c1 c2)]
      by_cases c3 : ((am_up M 187 1 (2 : Int32)) 187 9) ≤ ((am_up M 187 1 (2 : Int32)) 187 10)
      · rw [if_pos c3, if_pos c3]
        simp only [am_ans_some]
        rw [b_61_42]
      · rw [if_neg c3, if_neg c3]
        simp only [am_ans_some]
        rw [b_61_42]
    · rw [if_neg c2, if_neg c2]
      rw [b_61_32]
      by_cases c4 : (M 200 (M 187 10).toNatClampNeg) ≤ x2
      · rw [if_pos c4, if_pos c4]
        rw [b_61_45]
      · rw [if_neg c4, if_neg c4]
        rw [b_61_37]
        rw [c_53 (p4 c1 c2 c4)]
        by_cases c5 : ((am_up M 187 1 (2 : Int32)) 187 9) ≤ ((am_up M 187 1 (2 : Int32)) 187 10)
        · rw [if_pos c5, if_pos c5]
          simp only [am_ans_some]
          rw [b_61_42]
        · rw [if_neg c5, if_neg c5]
          simp only [am_ans_some]
          rw [b_61_42]
  · rw [if_neg c1, if_neg c1]
    rw [b_61_9]
    rw [c_53 (p5 c1)]
    by_cases c6 : ((am_up M 187 1 (1 : Int32)) 187 9) ≤ ((am_up M 187 1 (1 : Int32)) 187 10)
    · rw [if_pos c6, if_pos c6]
      simp only [am_ans_some]
      rw [b_61_14]
    · rw [if_neg c6, if_neg c6]
      simp only [am_ans_some]
      rw [b_61_14]
-- adds(IIIII)V
set_option maxRecDepth 20000 in
theorem c_34 {d nS : Nat} {x1 x2 x3 x4 x5 : Int32} {M : am_M} {Q : Option Value → am_H → Prop} (p1 : ((M 196 1) < 16) → vp_in ((M 196 1) * 5) 80) (p2 : ((M 196 1) < 16) → vp_in (((M 196 1) * 5) + 1) 80) (p3 : ((M 196 1) < 16) → vp_in (((M 196 1) * 5) + 2) 80) (p4 : ((M 196 1) < 16) → vp_in (((M 196 1) * 5) + 3) 80) (p5 : ((M 196 1) < 16) → vp_in (((M 196 1) * 5) + 4) 80) : am_Wp d 34 0 [.ref 196, .int x1, .int x2, .int x3, .int x4, .int x5, .retAddr 0] [] (hp nS M) Q = (if (M 196 1) < 16 then Q none (hp nS (am_up (am_up (am_up (am_up (am_up (am_up M 197 ((M 196 1) * 5).toNatClampNeg x1) 197 (((M 196 1) * 5) + 1).toNatClampNeg x2) 197 (((M 196 1) * 5) + 2).toNatClampNeg x3) 197 (((M 196 1) * 5) + 3).toNatClampNeg x4) 197 (((M 196 1) * 5) + 4).toNatClampNeg x5) 196 1 (((am_up (am_up (am_up (am_up (am_up M 197 ((M 196 1) * 5).toNatClampNeg x1) 197 (((M 196 1) * 5) + 1).toNatClampNeg x2) 197 (((M 196 1) * 5) + 2).toNatClampNeg x3) 197 (((M 196 1) * 5) + 3).toNatClampNeg x4) 197 (((M 196 1) * 5) + 4).toNatClampNeg x5) 196 1) + 1))) else Q none (hp nS M)) := by
  rw [b_34_0]
  by_cases c1 : (M 196 1) < 16
  · rw [if_pos c1, if_pos c1]
    rw [b_34_10 (p1 c1) (p2 c1) (p3 c1) (p4 c1) (p5 c1)]
  · rw [if_neg c1, if_neg c1]
    rw [b_34_9]
-- raw(I)I
set_option maxRecDepth 20000 in
theorem c_186 {d nS : Nat} {x1 : Int32} {M : am_M} {Q : Option Value → am_H → Prop} (p1 : ¬ ((M 205 15) ≤ x1) → vp_in x1 400) : am_Wp d 186 0 [.ref 205, .int x1] [] (hp nS M) Q = Q (some (.int (if (M 205 15) ≤ x1 then (-1) else (M 212 x1.toNatClampNeg)))) (hp nS M) := by
  rw [b_186_0]
  by_cases c1 : (M 205 15) ≤ x1
  · rw [if_pos c1, if_pos c1]
    rw [b_186_17]
    rw [b_186_18]
  · rw [if_neg c1, if_neg c1]
    rw [b_186_8 (p1 c1)]
    rw [b_186_18]
-- isLetter(I)Z
set_option maxRecDepth 20000 in
theorem c_187 {d nS : Nat} {x1 : Int32} {M : am_M} {Q : Option Value → am_H → Prop} : am_Wp (d + 1) 187 0 [.ref 205, .int x1] [] (hp nS M) Q = Q (some (.int (if (¬ (x1 < (97 : Int32)) ∧ (¬ ((122 : Int32) < x1))) ∨ (¬ (x1 < (65 : Int32)) ∧ (¬ ((90 : Int32) < x1))) then 1 else 0))) (hp nS M) := by
  rw [b_187_0]
  rw [c_171]
  simp only [am_ans_some]
  rw [b_187_9]
  by_cases c1 : ¬ (x1 < (97 : Int32)) ∧ (¬ ((122 : Int32) < x1))
  · rw [if_pos c1, if_pos bn1]
    rw [b_187_24]
    rw [b_187_29 rok1]
    rw [if_pos (Or.inl c1)]
  · rw [if_neg c1, if_neg bn0]
    rw [b_187_12]
    rw [c_171]
    simp only [am_ans_some]
    rw [b_187_21]
    by_cases c2 : ¬ (x1 < (65 : Int32)) ∧ (¬ ((90 : Int32) < x1))
    · rw [if_pos c2, if_neg bn1]
      rw [b_187_24]
      rw [b_187_29 rok1]
      rw [if_pos (Or.inr c2)]
    · rw [if_neg c2, if_pos rfl]
      rw [b_187_28]
      rw [b_187_29 rok0]
      rw [if_neg (fun q => q.elim c1 c2)]
-- isDigit(I)Z
set_option maxRecDepth 20000 in
theorem c_189 {d nS : Nat} {x1 : Int32} {M : am_M} {Q : Option Value → am_H → Prop} : am_Wp (d + 1) 189 0 [.ref 205, .int x1] [] (hp nS M) Q = Q (some (.int (if ¬ (x1 < (48 : Int32)) ∧ (¬ ((57 : Int32) < x1)) then 1 else 0))) (hp nS M) := by
  rw [b_189_0]
  rw [c_171]
  simp only [am_ans_some]
  rw [b_189_9 rok_ite]
-- isWord(I)Z
set_option maxRecDepth 20000 in
theorem c_192 {d nS : Nat} {x1 : Int32} {M : am_M} {Q : Option Value → am_H → Prop} : am_Wp d 192 0 [.ref 205, .int x1] [] (hp nS M) Q = Q (some (.int (if ¬ (¬ (M 205 18) = 2) ∧ (¬ (¬ (M 205 19) = x1)) then 1 else 0))) (hp nS M) := by
  rw [b_192_0]
  by_cases c1 : ¬ (M 205 18) = 2
  · rw [if_pos c1]
    rw [b_192_20]
    rw [b_192_21 rok0]
    rw [if_neg (fun q => q.1 c1)]
  · rw [if_neg c1]
    rw [b_192_8]
    by_cases c2 : ¬ (M 205 19) = x1
    · rw [if_pos c2]
      rw [b_192_20]
      rw [b_192_21 rok0]
      rw [if_neg (fun q => (fun q => q c2) q.2)]
    · rw [if_neg c2]
      rw [b_192_16]
      rw [b_192_21 rok1]
      rw [if_pos ⟨c1, c2⟩]
-- errs(I)I
set_option maxRecDepth 20000 in
theorem c_193 {d nS : Nat} {x1 : Int32} {M : am_M} {Q : Option Value → am_H → Prop} : am_Wp d 193 0 [.ref 205, .int x1] [] (hp nS M) Q = Q (some (.int (-1))) (hp nS (am_up (am_up M 205 33 x1) 205 34 ((am_up M 205 33 x1) 205 17))) := by
  rw [b_193_0]
-- isLineWord()Z
set_option maxRecDepth 20000 in
theorem c_205 {d nS : Nat} {M : am_M} {Q : Option Value → am_H → Prop} : am_Wp (d + 1) 205 0 [.ref 205] [] (hp nS M) Q = Q (some (.int (if ¬ (¬ (M 205 18) = 2) ∧ (¬ ((M 205 19) < (0 : Int32)) ∧ (¬ ((2 : Int32) < (M 205 19)))) then 1 else 0))) (hp nS M) := by
  rw [b_205_0]
  by_cases c1 : ¬ (M 205 18) = 2
  · rw [if_pos c1]
    rw [b_205_25]
    rw [b_205_26 rok0]
    rw [if_neg (fun q => q.1 c1)]
  · rw [if_neg c1]
    rw [b_205_8]
    rw [c_171]
    simp only [am_ans_some]
    rw [b_205_18]
    by_cases c2 : ¬ ((M 205 19) < (0 : Int32)) ∧ (¬ ((2 : Int32) < (M 205 19)))
    · rw [if_pos c2, if_neg bn1]
      rw [b_205_21]
      rw [b_205_26 rok1]
      rw [if_pos ⟨c1, c2⟩]
    · rw [if_neg c2, if_pos rfl]
      rw [b_205_25]
      rw [b_205_26 rok0]
      rw [if_neg (fun q => c2 q.2)]
-- isSign(I)Z
set_option maxRecDepth 20000 in
theorem c_199 {d nS : Nat} {x1 : Int32} {M : am_M} {Q : Option Value → am_H → Prop} : am_Wp d 199 0 [.ref 205, .int x1] [] (hp nS M) Q = Q (some (.int (if ¬ (¬ (M 205 18) = 4) ∧ (¬ (¬ (M 205 19) = x1)) then 1 else 0))) (hp nS M) := by
  rw [b_199_0]
  by_cases c1 : ¬ (M 205 18) = 4
  · rw [if_pos c1]
    rw [b_199_20]
    rw [b_199_21 rok0]
    rw [if_neg (fun q => q.1 c1)]
  · rw [if_neg c1]
    rw [b_199_8]
    by_cases c2 : ¬ (M 205 19) = x1
    · rw [if_pos c2]
      rw [b_199_20]
      rw [b_199_21 rok0]
      rw [if_neg (fun q => (fun q => q c2) q.2)]
    · rw [if_neg c2]
      rw [b_199_16]
      rw [b_199_21 rok1]
      rw [if_pos ⟨c1, c2⟩]
-- held(III)I
set_option maxRecDepth 20000 in
theorem c_238 {d nS : Nat} {x1 x2 x3 : Int32} {M : am_M} {Q : Option Value → am_H → Prop} : am_Wp d 238 0 [.ref 205, .int x1, .int x2, .int x3] [] (hp nS M) Q = Q (some (.int (if x2 ≤ x1 then (if x1 ≤ x3 then x1 else x3) else x2))) (hp nS M) := by
  rw [b_238_0]
  by_cases c1 : x2 ≤ x1
  · rw [if_pos c1, if_pos c1]
    rw [b_238_9]
    by_cases c2 : x1 ≤ x3
    · rw [if_pos c2, if_pos c2]
      rw [b_238_18]
      rw [b_238_19]
    · rw [if_neg c2, if_neg c2]
      rw [b_238_14]
      rw [b_238_19]
  · rw [if_neg c1, if_neg c1]
    rw [b_238_5]
    rw [b_238_19]
-- hasLark(I)Z
set_option maxRecDepth 20000 in
theorem c_104i1 {d nS : Nat} {x1 : Int32} {M : am_M} {Q : Option Value → am_H → Prop} : am_Wp d 104 0 [.ref 101, .int x1] [] (hp nS M) Q = Q (some (.int (if ¬ (x1 < 0) ∧ (¬ ((M 101 0) ≤ x1)) then 1 else 0))) (hp nS M) := by
  rw [b_104i1_0]
  by_cases c1 : x1 < 0
  · rw [if_pos c1]
    rw [b_104i1_16]
    rw [b_104i1_17 rok0]
    rw [if_neg (fun q => q.1 c1)]
  · rw [if_neg c1]
    rw [b_104i1_4]
    by_cases c2 : (M 101 0) ≤ x1
    · rw [if_pos c2]
      rw [b_104i1_16]
      rw [b_104i1_17 rok0]
      rw [if_neg (fun q => (fun q => q c2) q.2)]
    · rw [if_neg c2]
      rw [b_104i1_12]
      rw [b_104i1_17 rok1]
      rw [if_pos ⟨c1, c2⟩]
-- finds(I)V
set_option maxRecDepth 20000 in
theorem c_113i1 {d nS : Nat} {x1 : Int32} {M : am_M} {Q : Option Value → am_H → Prop} (p1 : vp_in x1 6) (p2 : ¬ (¬ (M 105 x1.toNatClampNeg) = 1) → vp_in x1 6) (p3 : ¬ (¬ (M 105 x1.toNatClampNeg) = 1) → vp_in x1 6) : am_Wp d 113 0 [.ref 101, .int x1] [] (hp nS M) Q = (if ¬ (M 105 x1.toNatClampNeg) = 1 then Q none (hp nS M) else Q none (hp nS (am_up (am_up M 105 x1.toNatClampNeg 0) 103 x1.toNatClampNeg 0))) := by
  rw [b_113i1_0 p1]
  by_cases c1 : ¬ (M 105 x1.toNatClampNeg) = 1
  · rw [if_pos c1, if_pos c1]
    rw [b_113i1_24]
  · rw [if_neg c1, if_neg c1]
    rw [b_113i1_10 (p2 c1) (p3 c1)]
    rw [b_113i1_24]
-- rises(II)V
set_option maxRecDepth 20000 in
theorem c_114i1 {d nS : Nat} {x1 x2 : Int32} {M : am_M} {Q : Option Value → am_H → Prop} (p1 : vp_in x1 6) (p2 : vp_in x1 6) (p3 : vp_in x1 6) (p4 : vp_in x1 6) (p5 : vp_in x1 6) : am_Wp (d + 1) 114 0 [.ref 101, .int x1, .int x2] [] (hp nS M) Q = Q none (hp nS (am_up (am_up M 103 x1.toNatClampNeg (if ((M 103 x1.toNatClampNeg) + x2) < (999 : Int32) then ((M 103 x1.toNatClampNeg) + x2) else (999 : Int32))) 104 x1.toNatClampNeg (if ((am_up M 103 x1.toNatClampNeg (if ((M 103 x1.toNatClampNeg) + x2) < (999 : Int32) then ((M 103 x1.toNatClampNeg) + x2) else (999 : Int32))) 104 x1.toNatClampNeg) < ((am_up M 103 x1.toNatClampNeg (if ((M 103 x1.toNatClampNeg) + x2) < (999 : Int32) then ((M 103 x1.toNatClampNeg) + x2) else (999 : Int32))) 103 x1.toNatClampNeg) then ((am_up M 103 x1.toNatClampNeg (if ((M 103 x1.toNatClampNeg) + x2) < (999 : Int32) then ((M 103 x1.toNatClampNeg) + x2) else (999 : Int32))) 103 x1.toNatClampNeg) else ((am_up M 103 x1.toNatClampNeg (if ((M 103 x1.toNatClampNeg) + x2) < (999 : Int32) then ((M 103 x1.toNatClampNeg) + x2) else (999 : Int32))) 104 x1.toNatClampNeg)))) := by
  rw [b_114i1_0 p1]
  rw [c_296]
  simp only [am_ans_some]
  rw [b_114i1_19 p2 p3 p4]
  rw [c_297]
  simp only [am_ans_some]
  rw [b_114i1_40 p5]
-- draw(I)I
set_option maxRecDepth 20000 in
theorem c_115i1 {d nS : Nat} {x1 : Int32} {M : am_M} {Q : Option Value → am_H → Prop} (p1 : ¬ (x1 ≤ 0) → ¬ x1 = 0) : am_Wp d 115 0 [.ref 101, .int x1] [] (hp nS M) Q = (if x1 ≤ 0 then Q (some (.int 0)) (hp nS (am_up M 101 5 (((M 101 5) * 1664525) + 1013904223))) else Q (some (.int (((((am_up M 101 5 (((M 101 5) * 1664525) + 1013904223)) 101 5).toUInt32 >>> ((8 : Int32).toUInt32 &&& Int32.toUInt32 31)).toInt32) - ((((am_up M 101 5 (((M 101 5) * 1664525) + 1013904223)) 101 5).toUInt32 >>> ((8 : Int32).toUInt32 &&& Int32.toUInt32 31)).toInt32) / x1 * x1))) (hp nS (am_up M 101 5 (((M 101 5) * 1664525) + 1013904223)))) := by
  rw [b_115i1_0]
  by_cases c1 : x1 ≤ 0
  · rw [if_pos c1, if_pos c1]
    rw [b_115i1_30]
    rw [b_115i1_31]
  · rw [if_neg c1, if_neg c1]
    rw [b_115i1_18 (p1 c1)]
    rw [b_115i1_31]
-- writes(LLarkExchange$World;IIIZ)V
set_option maxRecDepth 20000 in
theorem c_93i1 {d nS : Nat} {x2 x3 x4 x5 : Int32} {M : am_M} {Q : Option Value → am_H → Prop} (p1 : ¬ (x5 = 0) → ((M 101 6) < 150) → vp_in ((M 101 6) * 4) 600) (p2 : ¬ (x5 = 0) → ((M 101 6) < 150) → vp_in (((M 101 6) * 4) + 1) 600) (p3 : ¬ (x5 = 0) → ((M 101 6) < 150) → vp_in (((M 101 6) * 4) + 2) 600) (p4 : ¬ (x5 = 0) → ((M 101 6) < 150) → vp_in (((M 101 6) * 4) + 3) 600) : am_Wp d 93 0 [.ref 17, .ref 101, .int x2, .int x3, .int x4, .int x5, .retAddr 0] [] (hp nS M) Q = (if x5 = 0 then Q none (hp nS M) else (if (M 101 6) < 150 then Q none (hp nS (am_up (am_up (am_up (am_up (am_up M 30 ((M 101 6) * 4).toNatClampNeg (M 101 4)) 30 (((M 101 6) * 4) + 1).toNatClampNeg x2) 30 (((M 101 6) * 4) + 2).toNatClampNeg x3) 30 (((M 101 6) * 4) + 3).toNatClampNeg x4) 101 6 (((am_up (am_up (am_up (am_up M 30 ((M 101 6) * 4).toNatClampNeg (M 101 4)) 30 (((M 101 6) * 4) + 1).toNatClampNeg x2) 30 (((M 101 6) * 4) + 2).toNatClampNeg x3) 30 (((M 101 6) * 4) + 3).toNatClampNeg x4) 101 6) + 1))) else Q none (hp nS M))) := by
  rw [b_93i1_0]
  by_cases c1 : x5 = 0
  · rw [if_pos c1, if_pos c1]
    rw [b_93i1_15]
  · rw [if_neg c1, if_neg c1]
    rw [b_93i1_5]
    by_cases c2 : (M 101 6) < 150
    · rw [if_pos c2, if_pos c2]
      rw [b_93i1_16 (p1 c1 c2) (p2 c1 c2) (p3 c1 c2) (p4 c1 c2)]
    · rw [if_neg c2, if_neg c2]
      rw [b_93i1_15]
-- hasTrader(I)Z
set_option maxRecDepth 20000 in
theorem c_107i1 {d nS : Nat} {x1 : Int32} {M : am_M} {Q : Option Value → am_H → Prop} : am_Wp d 107 0 [.ref 101, .int x1] [] (hp nS M) Q = Q (some (.int (if ¬ (x1 < 0) ∧ (¬ ((M 101 2) ≤ x1)) then 1 else 0))) (hp nS M) := by
  rw [b_107i1_0]
  by_cases c1 : x1 < 0
  · rw [if_pos c1]
    rw [b_107i1_16]
    rw [b_107i1_17 rok0]
    rw [if_neg (fun q => q.1 c1)]
  · rw [if_neg c1]
    rw [b_107i1_4]
    by_cases c2 : (M 101 2) ≤ x1
    · rw [if_pos c2]
      rw [b_107i1_16]
      rw [b_107i1_17 rok0]
      rw [if_neg (fun q => (fun q => q c2) q.2)]
    · rw [if_neg c2]
      rw [b_107i1_12]
      rw [b_107i1_17 rok1]
      rw [if_pos ⟨c1, c2⟩]
-- hasGood(I)Z
set_option maxRecDepth 20000 in
theorem c_106i1 {d nS : Nat} {x1 : Int32} {M : am_M} {Q : Option Value → am_H → Prop} : am_Wp d 106 0 [.ref 101, .int x1] [] (hp nS M) Q = Q (some (.int (if ¬ (x1 < 0) ∧ (¬ ((M 101 1) ≤ x1)) then 1 else 0))) (hp nS M) := by
  rw [b_106i1_0]
  by_cases c1 : x1 < 0
  · rw [if_pos c1]
    rw [b_106i1_16]
    rw [b_106i1_17 rok0]
    rw [if_neg (fun q => q.1 c1)]
  · rw [if_neg c1]
    rw [b_106i1_4]
    by_cases c2 : (M 101 1) ≤ x1
    · rw [if_pos c2]
      rw [b_106i1_16]
      rw [b_106i1_17 rok0]
      rw [if_neg (fun q => (fun q => q c2) q.2)]
    · rw [if_neg c2]
      rw [b_106i1_12]
      rw [b_106i1_17 rok1]
      rw [if_pos ⟨c1, c2⟩]
-- canTrade(II)Z
set_option maxRecDepth 20000 in
theorem c_108i1 {d nS : Nat} {x1 x2 : Int32} {M : am_M} {Q : Option Value → am_H → Prop} (p1 : (¬ (x1 < 0) ∧ (¬ ((M 101 2) ≤ x1))) → (¬ (x2 < 0) ∧ (¬ ((M 101 1) ≤ x2))) → vp_in x1 10) : am_Wp (d + 1) 108 0 [.ref 101, .int x1, .int x2] [] (hp nS M) Q = Q (some (.int (if (¬ (x1 < 0) ∧ (¬ ((M 101 2) ≤ x1))) ∧ ((¬ (x2 < 0) ∧ (¬ ((M 101 1) ≤ x2))) ∧ (¬ (¬ (M 111 x1.toNatClampNeg) = 0))) then 1 else 0))) (hp nS M) := by
  rw [b_108i1_0]
  rw [c_107i1]
  simp only [am_ans_some]
  rw [b_108i1_5]
  by_cases c1 : ¬ (x1 < 0) ∧ (¬ ((M 101 2) ≤ x1))
  · rw [if_pos c1, if_neg bn1]
    rw [b_108i1_8]
    rw [c_106i1]
    simp only [am_ans_some]
    rw [b_108i1_13]
    by_cases c2 : ¬ (x2 < 0) ∧ (¬ ((M 101 1) ≤ x2))
    · rw [if_pos c2, if_neg bn1]
      rw [b_108i1_16 (p1 c1 c2)]
      by_cases c3 : ¬ (M 111 x1.toNatClampNeg) = 0
      · rw [if_pos c3]
        rw [b_108i1_29]
        rw [b_108i1_30 rok0]
        rw [if_neg (fun q => (fun q => (fun q => q c3) q.2) q.2)]
      · rw [if_neg c3]
        rw [b_108i1_25]
        rw [b_108i1_30 rok1]
        rw [if_pos ⟨c1, ⟨c2, c3⟩⟩]
    · rw [if_neg c2, if_pos rfl]
      rw [b_108i1_29]
      rw [b_108i1_30 rok0]
      rw [if_neg (fun q => (fun q => c2 q.1) q.2)]
  · rw [if_neg c1, if_pos rfl]
    rw [b_108i1_29]
    rw [b_108i1_30 rok0]
    rw [if_neg (fun q => c1 q.1)]
-- comparesRound(II)V
set_option maxRecDepth 20000 in
theorem c_5 {d nS : Nat} {x1 x2 : Int32} {M : am_M} {Q : Option Value → am_H → Prop} : am_Wp d 5 0 [.ref 54, .int x1, .int x2] [] (hp nS M) Q = (if (M 54 5) = (-1) then Q none (hp nS (am_up (am_up M 54 5 x1) 54 6 x2)) else (if (x1 * (M 54 6)) ≤ ((M 54 5) * x2) then Q none (hp nS M) else Q none (hp nS (am_up (am_up M 54 5 x1) 54 6 x2)))) := by
  rw [b_5_0]
  by_cases c1 : (M 54 5) = (-1)
  · rw [if_pos c1, if_pos c1]
    rw [b_5_23]
    rw [b_5_33]
  · rw [if_neg c1, if_neg c1]
    rw [b_5_8]
    by_cases c2 : (x1 * (M 54 6)) ≤ ((M 54 5) * x2)
    · rw [if_pos c2, if_pos c2]
      rw [b_5_33]
    · rw [if_neg c2, if_neg c2]
      rw [b_5_23]
      rw [b_5_33]
-- isDearer(II)Z
set_option maxRecDepth 20000 in
theorem c_9 {d nS : Nat} {x1 x2 : Int32} {M : am_M} {Q : Option Value → am_H → Prop} (p1 : vp_in x1 8) (p2 : vp_in x2 8) (p3 : vp_in x2 8) (p4 : vp_in x1 8) : am_Wp d 9 0 [.ref 54, .int x1, .int x2] [] (hp nS M) Q = Q (some (.int (if ¬ (((M 57 x1.toNatClampNeg) * (M 56 x2.toNatClampNeg)) ≤ ((M 57 x2.toNatClampNeg) * (M 56 x1.toNatClampNeg))) then 1 else 0))) (hp nS M) := by
  rw [b_9_0 p1 p2 p3 p4]
  by_cases c1 : ((M 57 x1.toNatClampNeg) * (M 56 x2.toNatClampNeg)) ≤ ((M 57 x2.toNatClampNeg) * (M 56 x1.toNatClampNeg))
  · rw [if_pos c1]
    rw [b_9_33]
    rw [b_9_34 rok0]
    rw [if_neg (fun q => q c1)]
  · rw [if_neg c1]
    rw [b_9_29]
    rw [b_9_34 rok1]
    rw [if_pos c1]
-- isLetter(I)Z
set_option maxRecDepth 20000 in
theorem c_46 {d nS : Nat} {x1 : Int32} {M : am_M} {Q : Option Value → am_H → Prop} (p1 : ¬ ((M 187 0) ≤ x1) → vp_in x1 400) (p2 : ¬ ((M 187 0) ≤ x1) → ((M 198 x1.toNatClampNeg) < 97) → vp_in x1 400) (p3 : ¬ ((M 187 0) ≤ x1) → ((M 198 x1.toNatClampNeg) < 97) → ¬ ((M 198 x1.toNatClampNeg) < 65) → vp_in x1 400) (p4 : ¬ ((M 187 0) ≤ x1) → ¬ ((M 198 x1.toNatClampNeg) < 97) → vp_in x1 400) (p5 : ¬ ((M 187 0) ≤ x1) → ¬ ((M 198 x1.toNatClampNeg) < 97) → ¬ ((M 198 x1.toNatClampNeg) ≤ 122) → vp_in x1 400) (p6 : ¬ ((M 187 0) ≤ x1) → ¬ ((M 198 x1.toNatClampNeg) < 97) → ¬ ((M 198 x1.toNatClampNeg) ≤ 122) → ¬ ((M 198 x1.toNatClampNeg) < 65) → vp_in x1 400) : am_Wp d 46 0 [.ref 187, .int x1] [] (hp nS M) Q = Q (some (.int (if ¬ ((M 187 0) ≤ x1) ∧ ((((M 198 x1.toNatClampNeg) < 97) ∧ (¬ ((M 198 x1.toNatClampNeg) < 65) ∧ (¬ (90 < (M 198 x1.toNatClampNeg))))) ∨ (¬ ((M 198 x1.toNatClampNeg) < 97) ∧ (((M 198 x1.toNatClampNeg) ≤ 122) ∨ (¬ ((M 198 x1.toNatClampNeg) < 65) ∧ (¬ (90 < (M 198 x1.toNatClampNeg))))))) then 1 else 0))) (hp nS M) := by
  rw [b_46_0]
  by_cases c1 : (M 187 0) ≤ x1
  · rw [if_pos c1]
    rw [b_46_56]
    rw [b_46_57 rok0]
    rw [if_neg (fun q => q.1 c1)]
  · rw [if_neg c1]
    rw [b_46_8 (p1 c1)]
    by_cases c2 : (M 198 x1.toNatClampNeg) < 97
    · rw [if_pos c2]
      rw [b_46_30 (p2 c1 c2)]
      by_cases c3 : (M 198 x1.toNatClampNeg) < 65
      · rw [if_pos c3]
        rw [b_46_56]
        rw [b_46_57 rok0]
        rw [if_neg (fun q => (fun q => q.elim (fun q => (fun q => q.1 c3) q.2) (fun q => q.1 c2)) q.2)]
      · rw [if_neg c3]
        rw [b_46_41 (p3 c1 c2 c3)]
        by_cases c4 : 90 < (M 198 x1.toNatClampNeg)
        · rw [if_pos c4]
          rw [b_46_56]
          rw [b_46_57 rok0]
          rw [if_neg (fun q => (fun q => q.elim (fun q => (fun q => (fun q => q c4) q.2) q.2) (fun q => q.1 c2)) q.2)]
        · rw [if_neg c4]
          rw [b_46_52]
          rw [b_46_57 rok1]
          rw [if_pos ⟨c1, (Or.inl ⟨c2, ⟨c3, c4⟩⟩)⟩]
    · rw [if_neg c2]
      rw [b_46_19 (p4 c1 c2)]
      by_cases c5 : (M 198 x1.toNatClampNeg) ≤ 122
      · rw [if_pos c5]
        rw [b_46_52]
        rw [b_46_57 rok1]
        rw [if_pos ⟨c1, (Or.inr ⟨c2, (Or.inl c5)⟩)⟩]
      · rw [if_neg c5]
        rw [b_46_30 (p5 c1 c2 c5)]
        by_cases c6 : (M 198 x1.toNatClampNeg) < 65
        · rw [if_pos c6]
          rw [b_46_56]
          rw [b_46_57 rok0]
          rw [if_neg (fun q => (fun q => q.elim (fun q => c2 q.1) (fun q => (fun q => q.elim c5 (fun q => q.1 c6)) q.2)) q.2)]
        · rw [if_neg c6]
          rw [b_46_41 (p6 c1 c2 c5 c6)]
          by_cases c7 : 90 < (M 198 x1.toNatClampNeg)
          · rw [if_pos c7]
            rw [b_46_56]
            rw [b_46_57 rok0]
            rw [if_neg (fun q => (fun q => q.elim (fun q => c2 q.1) (fun q => (fun q => q.elim c5 (fun q => (fun q => q c7) q.2)) q.2)) q.2)]
          · rw [if_neg c7]
            rw [b_46_52]
            rw [b_46_57 rok1]
            rw [if_pos ⟨c1, (Or.inr ⟨c2, (Or.inr ⟨c6, c7⟩)⟩)⟩]
-- adds(I)V
set_option maxRecDepth 20000 in
theorem c_28 {d nS : Nat} {x1 : Int32} {M : am_M} {Q : Option Value → am_H → Prop} (p1 : ¬ (400 ≤ (M 188 1)) → vp_in (M 188 1) 400) : am_Wp d 28 0 [.ref 188, .int x1] [] (hp nS M) Q = (if 400 ≤ (M 188 1) then Q none (hp nS M) else Q none (hp nS (am_up (am_up M 193 (M 188 1).toNatClampNeg x1) 188 1 (((am_up M 193 (M 188 1).toNatClampNeg x1) 188 1) + 1)))) := by
  rw [b_28_0]
  by_cases c1 : 400 ≤ (M 188 1)
  · rw [if_pos c1, if_pos c1]
    rw [b_28_30]
  · rw [if_neg c1, if_neg c1]
    rw [b_28_10 (p1 c1)]
    rw [b_28_30]
-- kindOfDeed()I
set_option maxRecDepth 20000 in
theorem c_197 {d nS : Nat} {M : am_M} {Q : Option Value → am_H → Prop} : am_Wp (d + 1) 197 0 [.ref 205] [] (hp nS M) Q = Q (some (.int (if ¬ (¬ (M 205 18) = 2) ∧ (¬ (¬ (M 205 19) = (11 : Int32))) then 3 else (if ¬ (M 205 18) = 2 then (-1) else (if ¬ ((M 205 19) < (17 : Int32)) ∧ (¬ ((19 : Int32) < (M 205 19))) then ((M 205 19) - 17) else (-1)))))) (hp nS M) := by
  rw [b_197_0]
  rw [c_192]
  simp only [am_ans_some]
  rw [b_197_6]
  by_cases c1 : ¬ (¬ (M 205 18) = 2) ∧ (¬ (¬ (M 205 19) = (11 : Int32)))
  · rw [if_pos c1, if_neg bn1, if_pos c1]
    rw [b_197_9]
  · rw [if_neg c1, if_pos rfl, if_neg c1]
    rw [b_197_11]
    by_cases c2 : ¬ (M 205 18) = 2
    · rw [if_pos c2, if_pos c2]
      rw [b_197_44]
      rw [b_197_45]
    · rw [if_neg c2, if_neg c2]
      rw [b_197_19]
      rw [c_171]
      simp only [am_ans_some]
      rw [b_197_31]
      by_cases c3 : ¬ ((M 205 19) < (17 : Int32)) ∧ (¬ ((19 : Int32) < (M 205 19)))
      · rw [if_pos c3, if_neg bn1, if_pos c3]
        rw [b_197_34]
        rw [b_197_45]
      · rw [if_neg c3, if_pos rfl, if_neg c3]
        rw [b_197_44]
        rw [b_197_45]
-- emits(II)V
set_option maxRecDepth 20000 in
theorem c_210 {d nS : Nat} {x1 x2 : Int32} {M : am_M} {Q : Option Value → am_H → Prop} (p1 : vp_in (800 + (M 205 29)) 1200) (p2 : vp_in (800 + ((am_up M 219 (800 + (M 205 29)).toNatClampNeg x1) 205 29)) 1200) : am_Wp d 210 0 [.ref 205, .int x1, .int x2] [] (hp nS M) Q = Q none (hp nS (am_up (am_up (am_up M 219 (800 + (M 205 29)).toNatClampNeg x1) 220 (800 + ((am_up M 219 (800 + (M 205 29)).toNatClampNeg x1) 205 29)).toNatClampNeg x2) 205 29 (((am_up (am_up M 219 (800 + (M 205 29)).toNatClampNeg x1) 220 (800 + ((am_up M 219 (800 + (M 205 29)).toNatClampNeg x1) 205 29)).toNatClampNeg x2) 205 29) + 1))) := by
  rw [b_210_0 p1 p2]
-- waits(I)V
set_option maxRecDepth 20000 in
theorem c_212 {d nS : Nat} {x1 : Int32} {M : am_M} {Q : Option Value → am_H → Prop} (p1 : vp_in (M 205 32) 40) : am_Wp d 212 0 [.ref 205, .int x1] [] (hp nS M) Q = Q none (hp nS (am_up (am_up M 221 (M 205 32).toNatClampNeg x1) 205 32 (((am_up M 221 (M 205 32).toNatClampNeg x1) 205 32) + 1))) := by
  rw [b_212_0 p1]
-- usual(ILLarkExchange$World;II)I
set_option maxRecDepth 20000 in
theorem c_25i1 {d nS : Nat} {x0 x2 x3 : Int32} {M : am_M} {Q : Option Value → am_H → Prop} (p1 : (¬ x0 = 2) → (¬ (x2 < 0) ∧ (¬ ((M 101 0) ≤ x2))) → (¬ x0 = 0) → vp_in x2 6) (p2 : (¬ x0 = 2) → (¬ (x2 < 0) ∧ (¬ ((M 101 0) ≤ x2))) → (¬ x0 = 0) → vp_in x2 6) (p3 : (¬ x0 = 2) → (¬ (x2 < 0) ∧ (¬ ((M 101 0) ≤ x2))) → ¬ (¬ x0 = 0) → vp_in x2 6) (p4 : ¬ (¬ x0 = 2) → (¬ (x3 < 0) ∧ (¬ ((M 101 1) ≤ x3))) → vp_in x3 8) (p5 : ¬ (¬ x0 = 2) → (¬ (x3 < 0) ∧ (¬ ((M 101 1) ≤ x3))) → (¬ (x2 < 0) ∧ (¬ ((M 101 0) ≤ x2))) → vp_in x2 6) (p6 : ¬ (¬ x0 = 2) → ¬ (¬ (x3 < 0) ∧ (¬ ((M 101 1) ≤ x3))) → (¬ (x2 < 0) ∧ (¬ ((M 101 0) ≤ x2))) → vp_in x2 6) : am_Wp (d + 1) 25 0 [.int x0, .ref 101, .int x2, .int x3, .retAddr 0, .retAddr 0] [] (hp nS M) Q = Q (some (.int (if ¬ x0 = 2 then (if ¬ (x2 < 0) ∧ (¬ ((M 101 0) ≤ x2)) then (if ¬ x0 = 0 then ((100 + (100 * (M 106 x2.toNatClampNeg))) - (10 * (M 102 x2.toNatClampNeg))) else (5 + (M 102 x2.toNatClampNeg))) else 0) else (if ¬ (x3 < 0) ∧ (¬ ((M 101 1) ≤ x3)) then (if ¬ (x2 < 0) ∧ (¬ ((M 101 0) ≤ x2)) then ((M 107 x3.toNatClampNeg) + ((M 103 x2.toNatClampNeg) / 10)) else (M 107 x3.toNatClampNeg)) else (if ¬ (x2 < 0) ∧ (¬ ((M 101 0) ≤ x2)) then ((0 : Int32) + ((M 103 x2.toNatClampNeg) / 10)) else 0))))) (hp nS M) := by
  rw [b_25i1_0]
  rw [c_104i1]
  simp only [am_ans_some]
  rw [b_25i1_5]
  by_cases c1 : ¬ x0 = 2
  · rw [if_pos c1, if_pos c1]
    rw [b_25i1_55]
    by_cases c2 : ¬ (x2 < 0) ∧ (¬ ((M 101 0) ≤ x2))
    · rw [if_pos c2, if_pos bn1, if_pos c2]
      rw [b_25i1_62]
      by_cases c3 : ¬ x0 = 0
      · rw [if_pos c3, if_pos c3]
        rw [b_25i1_77 (p1 c1 c2 c3) (p2 c1 c2 c3)]
        rw [b_25i1_99]
      · rw [if_neg c3, if_neg c3]
        rw [b_25i1_66 (p3 c1 c2 c3)]
        rw [b_25i1_99]
    · rw [if_neg c2, if_neg bn0, if_neg c2]
      rw [b_25i1_60]
  · rw [if_neg c1, if_neg c1]
    rw [b_25i1_12]
    rw [c_106i1]
    simp only [am_ans_some]
    rw [b_25i1_17]
    by_cases c4 : ¬ (x3 < 0) ∧ (¬ ((M 101 1) ≤ x3))
    · rw [if_pos c4, if_neg bn1, if_pos c4]
      rw [b_25i1_20 (p4 c1 c4)]
      rw [b_25i1_30]
      by_cases c5 : ¬ (x2 < 0) ∧ (¬ ((M 101 0) ≤ x2))
      · rw [if_pos c5, if_neg bn1, if_pos c5]
        rw [b_25i1_37 (p5 c1 c4 c5)]
        rw [b_25i1_54]
      · rw [if_neg c5, if_pos rfl, if_neg c5]
        rw [b_25i1_52]
        rw [b_25i1_54]
    · rw [if_neg c4, if_pos rfl, if_neg c4]
      rw [b_25i1_29]
      rw [b_25i1_30]
      by_cases c6 : ¬ (x2 < 0) ∧ (¬ ((M 101 0) ≤ x2))
      · rw [if_pos c6, if_neg bn1, if_pos c6]
        rw [b_25i1_37 (p6 c1 c4 c6)]
        rw [b_25i1_54]
      · rw [if_neg c6, if_pos rfl, if_neg c6]
        rw [b_25i1_52]
        rw [b_25i1_54]
-- stockOf(II)I
set_option maxRecDepth 20000 in
theorem c_110i1 {d nS : Nat} {x1 x2 : Int32} {M : am_M} {Q : Option Value → am_H → Prop} (p1 : vp_in ((x1 * 8) + x2) 80) : am_Wp d 110 0 [.ref 101, .int x1, .int x2] [] (hp nS M) Q = Q (some (.int (M 112 ((x1 * 8) + x2).toNatClampNeg))) (hp nS M) := by
  rw [b_110i1_0 p1]
-- affords(II)I
set_option maxRecDepth 20000 in
theorem c_109i1 {d nS : Nat} {x1 x2 : Int32} {M : am_M} {Q : Option Value → am_H → Prop} (p1 : vp_in x2 8) (p2 : ((M 109 x2.toNatClampNeg) ≤ 0) → vp_in ((x1 * 8) + x2) 80) (p3 : ¬ ((M 109 x2.toNatClampNeg) ≤ 0) → vp_in x1 10) (p4 : ¬ ((M 109 x2.toNatClampNeg) ≤ 0) → vp_in x2 8) (p5 : ¬ ((M 109 x2.toNatClampNeg) ≤ 0) → ¬ (M 109 x2.toNatClampNeg) = 0) (p6 : ¬ ((M 109 x2.toNatClampNeg) ≤ 0) → vp_in ((x1 * 8) + x2) 80) : am_Wp (d + 1) 109 0 [.ref 101, .int x1, .int x2, .retAddr 0] [] (hp nS M) Q = Q (some (.int (if (M 109 x2.toNatClampNeg) ≤ 0 then (if ((99 : Int32) - (M 112 ((x1 * 8) + x2).toNatClampNeg)) < (0 : Int32) then ((99 : Int32) - (M 112 ((x1 * 8) + x2).toNatClampNeg)) else (0 : Int32)) else (if ((99 : Int32) - (M 112 ((x1 * 8) + x2).toNatClampNeg)) < ((M 110 x1.toNatClampNeg) / (M 109 x2.toNatClampNeg)) then ((99 : Int32) - (M 112 ((x1 * 8) + x2).toNatClampNeg)) else ((M 110 x1.toNatClampNeg) / (M 109 x2.toNatClampNeg)))))) (hp nS M) := by
  rw [b_109i1_0 p1]
  by_cases c1 : (M 109 x2.toNatClampNeg) ≤ 0
  · rw [if_pos c1, if_pos c1]
    rw [b_109i1_25]
    rw [b_109i1_26]
    rw [c_110i1 (p2 c1)]
    simp only [am_ans_some]
    rw [b_109i1_36]
    rw [c_296]
    simp only [am_ans_some]
    rw [b_109i1_40]
  · rw [if_neg c1, if_neg c1]
    rw [b_109i1_9 (p3 c1) (p4 c1) (p5 c1)]
    rw [b_109i1_26]
    rw [c_110i1 (p6 c1)]
    simp only [am_ans_some]
    rw [b_109i1_36]
    rw [c_296]
    simp only [am_ans_some]
    rw [b_109i1_40]
-- moves(III)V
set_option maxRecDepth 20000 in
theorem c_112i1 {d nS : Nat} {x1 x2 x3 : Int32} {M : am_M} {Q : Option Value → am_H → Prop} (p1 : vp_in ((x1 * 8) + x2) 80) (p2 : vp_in ((x1 * 8) + x2) 80) (p3 : vp_in x1 10) (p4 : vp_in x2 8) (p5 : vp_in x1 10) : am_Wp d 112 0 [.ref 101, .int x1, .int x2, .int x3] [] (hp nS M) Q = Q none (hp nS (am_up (am_up M 112 ((x1 * 8) + x2).toNatClampNeg ((M 112 ((x1 * 8) + x2).toNatClampNeg) + x3)) 110 x1.toNatClampNeg (((am_up M 112 ((x1 * 8) + x2).toNatClampNeg ((M 112 ((x1 * 8) + x2).toNatClampNeg) + x3)) 110 x1.toNatClampNeg) - (x3 * ((am_up M 112 ((x1 * 8) + x2).toNatClampNeg ((M 112 ((x1 * 8) + x2).toNatClampNeg) + x3)) 109 x2.toNatClampNeg))))) := by
  rw [b_112i1_0 p1 p2 p3 p4 p5]
-- isLatin1()Z
set_option maxRecDepth 20000 in
theorem c_302 {d nS : Nat} {M : am_M} {Q : Option Value → am_H → Prop} : am_Wp d 302 0 [.ref 4] [] (hp nS M) Q = Q (some (.int (if ¬ ((1 : Int32) = 0) ∧ (¬ (¬ (M 4 0) = 0)) then 1 else 0))) (hp nS M) := by
  rw [b_302_0]
  by_cases c1 : (1 : Int32) = 0
  · rw [if_pos c1]
    rw [b_302_17]
    rw [b_302_18 rok0]
    rw [if_neg (fun q => q.1 c1)]
  · rw [if_neg c1]
    rw [b_302_6]
    by_cases c2 : ¬ (M 4 0) = 0
    · rw [if_pos c2]
      rw [b_302_17]
      rw [b_302_18 rok0]
      rw [if_neg (fun q => (fun q => q c2) q.2)]
    · rw [if_neg c2]
      rw [b_302_13]
      rw [b_302_18 rok1]
      rw [if_pos ⟨c1, c2⟩]
-- isLatin1()Z
set_option maxRecDepth 20000 in
theorem c_302i1 {d nS : Nat} {M : am_M} {Q : Option Value → am_H → Prop} : am_Wp d 302 0 [.ref 6] [] (hp nS M) Q = Q (some (.int (if ¬ ((1 : Int32) = 0) ∧ (¬ (¬ (M 6 0) = 0)) then 1 else 0))) (hp nS M) := by
  rw [b_302i1_0]
  by_cases c1 : (1 : Int32) = 0
  · rw [if_pos c1]
    rw [b_302i1_17]
    rw [b_302i1_18 rok0]
    rw [if_neg (fun q => q.1 c1)]
  · rw [if_neg c1]
    rw [b_302i1_6]
    by_cases c2 : ¬ (M 6 0) = 0
    · rw [if_pos c2]
      rw [b_302i1_17]
      rw [b_302i1_18 rok0]
      rw [if_neg (fun q => (fun q => q c2) q.2)]
    · rw [if_neg c2]
      rw [b_302i1_13]
      rw [b_302i1_18 rok1]
      rw [if_pos ⟨c1, c2⟩]
-- canAsk(I)Z
set_option maxRecDepth 20000 in
theorem c_209 {d nS : Nat} {x1 : Int32} {M : am_M} {Q : Option Value → am_H → Prop} : am_Wp (d + 1) 209 0 [.ref 205, .int x1] [] (hp nS M) Q = Q (some (.int (if ¬ (x1 < (7 : Int32)) ∧ (¬ ((15 : Int32) < x1)) then 1 else 0))) (hp nS M) := by
  rw [b_209_0]
  rw [c_171]
  simp only [am_ans_some]
  rw [b_209_9 rok_ite]
-- canEncode(I)Z
set_option maxRecDepth 20000 in
theorem c_306 {d nS : Nat} {x0 : Int32} {M : am_M} {Q : Option Value → am_H → Prop} : am_Wp d 306 0 [.int x0] [] (hp nS M) Q = Q (some (.int (if ¬ (x0 < 0) ∧ (¬ (255 < x0)) then 1 else 0))) (hp nS M) := by
  rw [b_306_0]
  by_cases c1 : x0 < 0
  · rw [if_pos c1]
    rw [b_306_15]
    rw [b_306_16 rok0]
    rw [if_neg (fun q => q.1 c1)]
  · rw [if_neg c1]
    rw [b_306_4]
    by_cases c2 : 255 < x0
    · rw [if_pos c2]
      rw [b_306_15]
      rw [b_306_16 rok0]
      rw [if_neg (fun q => (fun q => q c2) q.2)]
    · rw [if_neg c2]
      rw [b_306_11]
      rw [b_306_16 rok1]
      rw [if_pos ⟨c1, c2⟩]
