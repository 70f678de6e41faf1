-- undo()Z
set_option maxRecDepth 20000 in
theorem b_168_0 {d nS : Nat} {M : am_M} {Q : Option Value → am_H → Prop} : am_Wp d 168 0 [.ref 205, .retAddr 0] [] (hp nS M) Q = if ¬ ((am_up M 205 0 0) 205 5) = 0 then am_Wp d 168 14 [.ref 205, .retAddr 0] [] (hp nS (am_up M 205 0 0)) Q else am_Wp d 168 12 [.ref 205, .retAddr 0] [] (hp nS (am_up M 205 0 0)) Q := by
  refine (eq_run 5 (q := (9, [.ref 205, .retAddr 0], [.int ((am_up M 205 0 0) 205 5)], hp nS (am_up M 205 0 0))) (by with_unfolding_all rfl)).trans ?_
  exact eq_if_ne (by with_unfolding_all rfl)
set_option maxRecDepth 20000 in
theorem b_168_12 {d nS : Nat} {M : am_M} {Q : Option Value → am_H → Prop} : am_Wp d 168 12 [.ref 205, .retAddr 0] [] (hp nS M) Q = Q (some (.int 0)) (hp nS M) := by
  refine (eq_run 1 (q := (13, [.ref 205, .retAddr 0], [.int 0], hp nS M)) (by with_unfolding_all rfl)).trans ?_
  exact eq_retI2 (e := (.ireturn, 1, 0, 0, 0)) (t := .boolean) (by with_unfolding_all rfl) rfl (by with_unfolding_all rfl) rfl
set_option maxRecDepth 20000 in
theorem b_168_14 {d nS : Nat} {M : am_M} {Q : Option Value → am_H → Prop} : am_Wp d 168 14 [.ref 205, .retAddr 0] [] (hp nS M) Q = am_Wp d 168 26 [.ref 205, .int 0] [] (hp nS (am_up M 205 5 ((M 205 5) - 1))) Q := by
  exact eq_run 8 (q := (26, [.ref 205, .int 0], [], hp nS (am_up M 205 5 ((M 205 5) - 1)))) (by with_unfolding_all rfl)
set_option maxRecDepth 20000 in
theorem b_168_26 {d nS : Nat} {x1 : Int32} {M : am_M} {Q : Option Value → am_H → Prop} : am_Wp d 168 26 [.ref 205, .int x1] [] (hp nS M) Q = if 136 ≤ x1 then am_Wp d 168 60 [.ref 205, .int x1] [] (hp nS M) Q else am_Wp d 168 33 [.ref 205, .int x1] [] (hp nS M) Q := by
  refine (eq_run 2 (q := (30, [.ref 205, .int x1], [.int 136, .int x1], hp nS M)) (by with_unfolding_all rfl)).trans ?_
  exact eq_cmp_ge (by with_unfolding_all rfl)
set_option maxRecDepth 20000 in
theorem b_168_33 {d nS : Nat} {x1 : Int32} {M : am_M} {Q : Option Value → am_H → Prop} (h1 : vp_in ((136 * (M 205 5)) + x1) 816) (h2 : vp_in x1 136) : am_Wp d 168 33 [.ref 205, .int x1] [] (hp nS M) Q = am_Wp d 168 26 [.ref 205, .int (x1 + 1)] [] (hp nS (am_up M 206 x1.toNatClampNeg (M 207 ((136 * (M 205 5)) + x1).toNatClampNeg))) Q := by
  refine (eq_run 11 (q := (52, [.ref 205, .int x1], [.int ((136 * (M 205 5)) + x1), .ref 207, .int x1, .ref 206], hp nS M)) (by with_unfolding_all rfl)).trans ?_
  refine (eq_ald (e := (.iaload, 1, 0, 0, 0)) (by with_unfolding_all rfl) rfl (n := 816) (by with_unfolding_all rfl) h1).trans ?_
  refine (eq_ast (e := (.iastore, 1, 0, 0, 0)) (by with_unfolding_all rfl) rfl (n := 136) (by with_unfolding_all rfl) (by decide) h2).trans ?_
  exact eq_run 2 (q := (26, [.ref 205, .int (x1 + 1)], [], hp nS (am_up M 206 x1.toNatClampNeg (M 207 ((136 * (M 205 5)) + x1).toNatClampNeg)))) (by with_unfolding_all rfl)
set_option maxRecDepth 20000 in
theorem b_168_60 {d nS : Nat} {x1 : Int32} {M : am_M} {Q : Option Value → am_H → Prop} : am_Wp d 168 60 [.ref 205, .int x1] [] (hp nS M) Q = Q (some (.int 1)) (hp nS M) := by
  refine (eq_run 1 (q := (61, [.ref 205, .int x1], [.int 1], hp nS M)) (by with_unfolding_all rfl)).trans ?_
  exact eq_retI2 (e := (.ireturn, 1, 0, 0, 0)) (t := .boolean) (by with_unfolding_all rfl) rfl (by with_unfolding_all rfl) rfl
-- state(I)I
set_option maxRecDepth 20000 in
theorem b_169_0 {d nS : Nat} {x1 : Int32} {M : am_M} {Q : Option Value → am_H → Prop} : am_Wp d 169 0 [.ref 205, .int x1, .retAddr 0] [] (hp nS M) Q = Q (some (.int ((am_up M 205 0 0) 206 1))) (hp nS (am_up (am_up (am_up M 205 0 0) 206 1 x1) 205 5 0)) := by
  refine (eq_run 17 (q := (25, [.ref 205, .int x1, .int ((am_up M 205 0 0) 206 1)], [.int ((am_up M 205 0 0) 206 1)], hp nS (am_up (am_up (am_up M 205 0 0) 206 1 x1) 205 5 0))) (by with_unfolding_all rfl)).trans ?_
  exact eq_retI2 (e := (.ireturn, 1, 0, 0, 0)) (t := .int) (by with_unfolding_all rfl) rfl (by with_unfolding_all rfl) rfl
-- lark(I)I
set_option maxRecDepth 20000 in
theorem b_170_0 {d nS : Nat} {x1 : Int32} {M : am_M} {Q : Option Value → am_H → Prop} : am_Wp (d + 1) 170 0 [.ref 205, .int x1, .retAddr 0] [] (hp nS M) Q = am_Wp d 171 0 [.ref 205, .int x1, .int 0, .int 9] [] (hp nS (am_up M 205 0 0)) (fun v h1 => am_Wp (d + 1) 170 13 [.ref 205, .int x1, .retAddr 0] (am_ans v []) h1 Q) := by
  refine (eq_run 7 (q := (10, [.ref 205, .int x1, .retAddr 0], [.int 9, .int 0, .int x1, .ref 205], hp nS (am_up M 205 0 0))) (by with_unfolding_all rfl)).trans ?_
  exact eq_call2 (e := (.invokevirtual 144, 3, 0, 171, 275)) (as := [.ref 205, .int x1, .int 0, .int 9]) (r := []) (n := 4) (m := 4) (by with_unfolding_all rfl) rfl (by decide) (by with_unfolding_all rfl) (by decide) (by with_unfolding_all rfl) ⟨fun _ => am_rec_ok (c := 14) (by with_unfolding_all rfl) (by decide +kernel), fun z => by simp at z⟩
set_option maxRecDepth 20000 in
theorem b_170_13 {d nS : Nat} {x1 s0 : Int32} {M : am_M} {Q : Option Value → am_H → Prop} : am_Wp d 170 13 [.ref 205, .int x1, .retAddr 0] [.int s0] (hp nS M) Q = if s0 = 0 then am_Wp d 170 25 [.ref 205, .int x1, .retAddr 0] [] (hp nS M) Q else am_Wp d 170 16 [.ref 205, .int x1, .retAddr 0] [] (hp nS M) Q := by
  exact eq_if_eq (by with_unfolding_all rfl)
set_option maxRecDepth 20000 in
theorem b_170_16 {d nS : Nat} {x1 : Int32} {M : am_M} {Q : Option Value → am_H → Prop} : am_Wp d 170 16 [.ref 205, .int x1, .retAddr 0] [] (hp nS M) Q = if ¬ (M 205 8) = 6 then am_Wp d 170 27 [.ref 205, .int x1, .retAddr 0] [] (hp nS M) Q else am_Wp d 170 25 [.ref 205, .int x1, .retAddr 0] [] (hp nS M) Q := by
  refine (eq_run 3 (q := (22, [.ref 205, .int x1, .retAddr 0], [.int 6, .int (M 205 8)], hp nS M)) (by with_unfolding_all rfl)).trans ?_
  exact eq_cmp_ne (by with_unfolding_all rfl)
set_option maxRecDepth 20000 in
theorem b_170_25 {d nS : Nat} {x1 : Int32} {M : am_M} {Q : Option Value → am_H → Prop} : am_Wp d 170 25 [.ref 205, .int x1, .retAddr 0] [] (hp nS M) Q = Q (some (.int (-1))) (hp nS M) := by
  refine (eq_run 1 (q := (26, [.ref 205, .int x1, .retAddr 0], [.int (-1)], hp nS M)) (by with_unfolding_all rfl)).trans ?_
  exact eq_retI2 (e := (.ireturn, 1, 0, 0, 0)) (t := .int) (by with_unfolding_all rfl) rfl (by with_unfolding_all rfl) rfl
set_option maxRecDepth 20000 in
theorem b_170_27 {d nS : Nat} {x1 : Int32} {M : am_M} {Q : Option Value → am_H → Prop} (h1 : vp_in (M 205 8) 6) : am_Wp d 170 27 [.ref 205, .int x1, .retAddr 0] [] (hp nS M) Q = am_Wp d 170 39 [.ref 205, .int x1, .int 4] [] (hp nS (am_up M 209 (M 205 8).toNatClampNeg x1)) Q := by
  refine (eq_run 5 (q := (36, [.ref 205, .int x1, .retAddr 0], [.int x1, .int (M 205 8), .ref 209], hp nS M)) (by with_unfolding_all rfl)).trans ?_
  refine (eq_ast (e := (.iastore, 1, 0, 0, 0)) (by with_unfolding_all rfl) rfl (n := 6) (by with_unfolding_all rfl) (by decide) h1).trans ?_
  exact eq_run 2 (q := (39, [.ref 205, .int x1, .int 4], [], hp nS (am_up M 209 (M 205 8).toNatClampNeg x1))) (by with_unfolding_all rfl)
set_option maxRecDepth 20000 in
theorem b_170_39 {d nS : Nat} {x1 x2 : Int32} {M : am_M} {Q : Option Value → am_H → Prop} : am_Wp d 170 39 [.ref 205, .int x1, .int x2] [] (hp nS M) Q = if 28 ≤ x2 then am_Wp d 170 65 [.ref 205, .int x1, .int x2] [] (hp nS M) Q else am_Wp d 170 45 [.ref 205, .int x1, .int x2] [] (hp nS M) Q := by
  refine (eq_run 2 (q := (42, [.ref 205, .int x1, .int x2], [.int 28, .int x2], hp nS M)) (by with_unfolding_all rfl)).trans ?_
  exact eq_cmp_ge (by with_unfolding_all rfl)
set_option maxRecDepth 20000 in
theorem b_170_45 {d nS : Nat} {x1 x2 : Int32} {M : am_M} {Q : Option Value → am_H → Prop} (h1 : vp_in (x2 + (M 205 8)) 136) : am_Wp d 170 45 [.ref 205, .int x1, .int x2] [] (hp nS M) Q = am_Wp d 170 39 [.ref 205, .int x1, .int (x2 + 6)] [] (hp nS (am_up M 206 (x2 + (M 205 8)).toNatClampNeg 0)) Q := by
  refine (eq_run 7 (q := (56, [.ref 205, .int x1, .int x2], [.int 0, .int (x2 + (M 205 8)), .ref 206], hp nS M)) (by with_unfolding_all rfl)).trans ?_
  refine (eq_ast (e := (.iastore, 1, 0, 0, 0)) (by with_unfolding_all rfl) rfl (n := 136) (by with_unfolding_all rfl) (by decide) h1).trans ?_
  exact eq_run 5 (q := (39, [.ref 205, .int x1, .int (x2 + 6)], [], hp nS (am_up M 206 (x2 + (M 205 8)).toNatClampNeg 0))) (by with_unfolding_all rfl)
set_option maxRecDepth 20000 in
theorem b_170_65 {d nS : Nat} {x1 x2 : Int32} {M : am_M} {Q : Option Value → am_H → Prop} : am_Wp d 170 65 [.ref 205, .int x1, .int x2] [] (hp nS M) Q = Q (some (.int (((am_up (am_up M 205 8 ((M 205 8) + 1)) 205 5 0) 205 8) - 1))) (hp nS (am_up (am_up M 205 8 ((M 205 8) + 1)) 205 5 0)) := by
  refine (eq_run 13 (q := (86, [.ref 205, .int x1, .int x2], [.int (((am_up (am_up M 205 8 ((M 205 8) + 1)) 205 5 0) 205 8) - 1)], hp nS (am_up (am_up M 205 8 ((M 205 8) + 1)) 205 5 0))) (by with_unfolding_all rfl)).trans ?_
  exact eq_retI2 (e := (.ireturn, 1, 0, 0, 0)) (t := .int) (by with_unfolding_all rfl) rfl (by with_unfolding_all rfl) rfl
-- isIn(III)Z
set_option maxRecDepth 20000 in
theorem b_171_0 {d nS : Nat} {x1 x2 x3 : Int32} {M : am_M} {Q : Option Value → am_H → Prop} : am_Wp d 171 0 [.ref 205, .int x1, .int x2, .int x3] [] (hp nS M) Q = if x1 < x2 then am_Wp d 171 14 [.ref 205, .int x1, .int x2, .int x3] [] (hp nS M) Q else am_Wp d 171 5 [.ref 205, .int x1, .int x2, .int x3] [] (hp nS M) Q := by
  refine (eq_run 2 (q := (2, [.ref 205, .int x1, .int x2, .int x3], [.int x2, .int x1], hp nS M)) (by with_unfolding_all rfl)).trans ?_
  exact eq_cmp_lt (by with_unfolding_all rfl)
set_option maxRecDepth 20000 in
theorem b_171_5 {d nS : Nat} {x1 x2 x3 : Int32} {M : am_M} {Q : Option Value → am_H → Prop} : am_Wp d 171 5 [.ref 205, .int x1, .int x2, .int x3] [] (hp nS M) Q = if x3 < x1 then am_Wp d 171 14 [.ref 205, .int x1, .int x2, .int x3] [] (hp nS M) Q else am_Wp d 171 10 [.ref 205, .int x1, .int x2, .int x3] [] (hp nS M) Q := by
  refine (eq_run 2 (q := (7, [.ref 205, .int x1, .int x2, .int x3], [.int x3, .int x1], hp nS M)) (by with_unfolding_all rfl)).trans ?_
  exact eq_cmp_gt (by with_unfolding_all rfl)
set_option maxRecDepth 20000 in
theorem b_171_10 {d nS : Nat} {x1 x2 x3 : Int32} {M : am_M} {Q : Option Value → am_H → Prop} : am_Wp d 171 10 [.ref 205, .int x1, .int x2, .int x3] [] (hp nS M) Q = am_Wp d 171 15 [.ref 205, .int x1, .int x2, .int x3] [.int 1] (hp nS M) Q := by
  exact eq_run 2 (q := (15, [.ref 205, .int x1, .int x2, .int x3], [.int 1], hp nS M)) (by with_unfolding_all rfl)
set_option maxRecDepth 20000 in
theorem b_171_14 {d nS : Nat} {x1 x2 x3 : Int32} {M : am_M} {Q : Option Value → am_H → Prop} : am_Wp d 171 14 [.ref 205, .int x1, .int x2, .int x3] [] (hp nS M) Q = am_Wp d 171 15 [.ref 205, .int x1, .int x2, .int x3] [.int 0] (hp nS M) Q := by
  exact eq_run 1 (q := (15, [.ref 205, .int x1, .int x2, .int x3], [.int 0], hp nS M)) (by with_unfolding_all rfl)
set_option maxRecDepth 20000 in
theorem b_171_15 {d nS : Nat} {x1 x2 x3 s0 : Int32} {M : am_M} {Q : Option Value → am_H → Prop} (h1 : am_rok .boolean s0 = true) : am_Wp d 171 15 [.ref 205, .int x1, .int x2, .int x3] [.int s0] (hp nS M) Q = Q (some (.int s0)) (hp nS M) := by
  exact eq_retI2 (e := (.ireturn, 1, 0, 0, 0)) (t := .boolean) (by with_unfolding_all rfl) rfl (by with_unfolding_all rfl) h1
-- good(I)I
set_option maxRecDepth 20000 in
theorem b_172_0 {d nS : Nat} {x1 : Int32} {M : am_M} {Q : Option Value → am_H → Prop} : am_Wp (d + 1) 172 0 [.ref 205, .int x1, .retAddr 0] [] (hp nS M) Q = am_Wp d 171 0 [.ref 205, .int x1, .int 1, .int 99] [] (hp nS (am_up M 205 0 0)) (fun v h1 => am_Wp (d + 1) 172 13 [.ref 205, .int x1, .retAddr 0] (am_ans v []) h1 Q) := by
  refine (eq_run 7 (q := (10, [.ref 205, .int x1, .retAddr 0], [.int 99, .int 1, .int x1, .ref 205], hp nS (am_up M 205 0 0))) (by with_unfolding_all rfl)).trans ?_
  exact eq_call2 (e := (.invokevirtual 144, 3, 0, 171, 275)) (as := [.ref 205, .int x1, .int 1, .int 99]) (r := []) (n := 4) (m := 4) (by with_unfolding_all rfl) rfl (by decide) (by with_unfolding_all rfl) (by decide) (by with_unfolding_all rfl) ⟨fun _ => am_rec_ok (c := 14) (by with_unfolding_all rfl) (by decide +kernel), fun z => by simp at z⟩
set_option maxRecDepth 20000 in
theorem b_172_13 {d nS : Nat} {x1 s0 : Int32} {M : am_M} {Q : Option Value → am_H → Prop} : am_Wp d 172 13 [.ref 205, .int x1, .retAddr 0] [.int s0] (hp nS M) Q = if s0 = 0 then am_Wp d 172 25 [.ref 205, .int x1, .retAddr 0] [] (hp nS M) Q else am_Wp d 172 16 [.ref 205, .int x1, .retAddr 0] [] (hp nS M) Q := by
  exact eq_if_eq (by with_unfolding_all rfl)
set_option maxRecDepth 20000 in
theorem b_172_16 {d nS : Nat} {x1 : Int32} {M : am_M} {Q : Option Value → am_H → Prop} : am_Wp d 172 16 [.ref 205, .int x1, .retAddr 0] [] (hp nS M) Q = if ¬ (M 205 9) = 8 then am_Wp d 172 27 [.ref 205, .int x1, .retAddr 0] [] (hp nS M) Q else am_Wp d 172 25 [.ref 205, .int x1, .retAddr 0] [] (hp nS M) Q := by
  refine (eq_run 3 (q := (22, [.ref 205, .int x1, .retAddr 0], [.int 8, .int (M 205 9)], hp nS M)) (by with_unfolding_all rfl)).trans ?_
  exact eq_cmp_ne (by with_unfolding_all rfl)
set_option maxRecDepth 20000 in
theorem b_172_25 {d nS : Nat} {x1 : Int32} {M : am_M} {Q : Option Value → am_H → Prop} : am_Wp d 172 25 [.ref 205, .int x1, .retAddr 0] [] (hp nS M) Q = Q (some (.int (-1))) (hp nS M) := by
  refine (eq_run 1 (q := (26, [.ref 205, .int x1, .retAddr 0], [.int (-1)], hp nS M)) (by with_unfolding_all rfl)).trans ?_
  exact eq_retI2 (e := (.ireturn, 1, 0, 0, 0)) (t := .int) (by with_unfolding_all rfl) rfl (by with_unfolding_all rfl) rfl
set_option maxRecDepth 20000 in
theorem b_172_27 {d nS : Nat} {x1 : Int32} {M : am_M} {Q : Option Value → am_H → Prop} (h1 : vp_in (M 205 9) 8) (h2 : vp_in (28 + ((am_up M 210 (M 205 9).toNatClampNeg x1) 205 9)) 136) : am_Wp d 172 27 [.ref 205, .int x1, .retAddr 0] [] (hp nS M) Q = am_Wp d 172 52 [.ref 205, .int x1, .int 0] [] (hp nS (am_up (am_up M 210 (M 205 9).toNatClampNeg x1) 206 (28 + ((am_up M 210 (M 205 9).toNatClampNeg x1) 205 9)).toNatClampNeg x1)) Q := by
  refine (eq_run 5 (q := (36, [.ref 205, .int x1, .retAddr 0], [.int x1, .int (M 205 9), .ref 210], hp nS M)) (by with_unfolding_all rfl)).trans ?_
  refine (eq_ast (e := (.iastore, 1, 0, 0, 0)) (by with_unfolding_all rfl) rfl (n := 8) (by with_unfolding_all rfl) (by decide) h1).trans ?_
  refine (eq_run 7 (q := (49, [.ref 205, .int x1, .retAddr 0], [.int x1, .int (28 + ((am_up M 210 (M 205 9).toNatClampNeg x1) 205 9)), .ref 206], hp nS (am_up M 210 (M 205 9).toNatClampNeg x1))) (by with_unfolding_all rfl)).trans ?_
  refine (eq_ast (e := (.iastore, 1, 0, 0, 0)) (by with_unfolding_all rfl) rfl (n := 136) (by with_unfolding_all rfl) (by decide) h2).trans ?_
  exact eq_run 2 (q := (52, [.ref 205, .int x1, .int 0], [], hp nS (am_up (am_up M 210 (M 205 9).toNatClampNeg x1) 206 (28 + ((am_up M 210 (M 205 9).toNatClampNeg x1) 205 9)).toNatClampNeg x1))) (by with_unfolding_all rfl)
set_option maxRecDepth 20000 in
theorem b_172_52 {d nS : Nat} {x1 x2 : Int32} {M : am_M} {Q : Option Value → am_H → Prop} : am_Wp d 172 52 [.ref 205, .int x1, .int x2] [] (hp nS M) Q = if 10 ≤ x2 then am_Wp d 172 79 [.ref 205, .int x1, .int x2] [] (hp nS M) Q else am_Wp d 172 58 [.ref 205, .int x1, .int x2] [] (hp nS M) Q := by
  refine (eq_run 2 (q := (55, [.ref 205, .int x1, .int x2], [.int 10, .int x2], hp nS M)) (by with_unfolding_all rfl)).trans ?_
  exact eq_cmp_ge (by with_unfolding_all rfl)
set_option maxRecDepth 20000 in
theorem b_172_58 {d nS : Nat} {x1 x2 : Int32} {M : am_M} {Q : Option Value → am_H → Prop} : am_Wp (d + 1) 172 58 [.ref 205, .int x1, .int x2] [] (hp nS M) Q = am_Wp d 173 0 [.ref 205, .int x2, .int (M 205 9)] [] (hp nS M) (fun v h1 => am_Wp (d + 1) 172 71 [.ref 205, .int x1, .int x2] (am_ans v [.ref 206]) h1 Q) := by
  refine (eq_run 6 (q := (68, [.ref 205, .int x1, .int x2], [.int (M 205 9), .int x2, .ref 205, .ref 206], hp nS M)) (by with_unfolding_all rfl)).trans ?_
  exact eq_call2 (e := (.invokevirtual 148, 3, 0, 173, 276)) (as := [.ref 205, .int x2, .int (M 205 9)]) (r := [.ref 206]) (n := 3) (m := 3) (by with_unfolding_all rfl) rfl (by decide) (by with_unfolding_all rfl) (by decide) (by with_unfolding_all rfl) ⟨fun _ => am_rec_ok (c := 14) (by with_unfolding_all rfl) (by decide +kernel), fun z => by simp at z⟩
set_option maxRecDepth 20000 in
theorem b_172_71 {d nS : Nat} {x1 x2 s1 : Int32} {M : am_M} {Q : Option Value → am_H → Prop} (h1 : vp_in s1 136) : am_Wp d 172 71 [.ref 205, .int x1, .int x2] [.int s1, .ref 206] (hp nS M) Q = am_Wp d 172 52 [.ref 205, .int x1, .int (x2 + 1)] [] (hp nS (am_up M 206 s1.toNatClampNeg 0)) Q := by
  refine (eq_run 1 (q := (72, [.ref 205, .int x1, .int x2], [.int 0, .int s1, .ref 206], hp nS M)) (by with_unfolding_all rfl)).trans ?_
  refine (eq_ast (e := (.iastore, 1, 0, 0, 0)) (by with_unfolding_all rfl) rfl (n := 136) (by with_unfolding_all rfl) (by decide) h1).trans ?_
  exact eq_run 2 (q := (52, [.ref 205, .int x1, .int (x2 + 1)], [], hp nS (am_up M 206 s1.toNatClampNeg 0))) (by with_unfolding_all rfl)
set_option maxRecDepth 20000 in
theorem b_172_79 {d nS : Nat} {x1 x2 : Int32} {M : am_M} {Q : Option Value → am_H → Prop} : am_Wp d 172 79 [.ref 205, .int x1, .int x2] [] (hp nS M) Q = Q (some (.int (((am_up (am_up M 205 9 ((M 205 9) + 1)) 205 5 0) 205 9) - 1))) (hp nS (am_up (am_up M 205 9 ((M 205 9) + 1)) 205 5 0)) := by
  refine (eq_run 13 (q := (100, [.ref 205, .int x1, .int x2], [.int (((am_up (am_up M 205 9 ((M 205 9) + 1)) 205 5 0) 205 9) - 1)], hp nS (am_up (am_up M 205 9 ((M 205 9) + 1)) 205 5 0))) (by with_unfolding_all rfl)).trans ?_
  exact eq_retI2 (e := (.ireturn, 1, 0, 0, 0)) (t := .int) (by with_unfolding_all rfl) rfl (by with_unfolding_all rfl) rfl
-- stockAt(II)I
set_option maxRecDepth 20000 in
theorem b_173_0 {d nS : Nat} {x1 x2 : Int32} {M : am_M} {Q : Option Value → am_H → Prop} : am_Wp d 173 0 [.ref 205, .int x1, .int x2] [] (hp nS M) Q = Q (some (.int ((56 + (8 * x1)) + x2))) (hp nS M) := by
  refine (eq_run 7 (q := (9, [.ref 205, .int x1, .int x2], [.int ((56 + (8 * x1)) + x2)], hp nS M)) (by with_unfolding_all rfl)).trans ?_
  exact eq_retI2 (e := (.ireturn, 1, 0, 0, 0)) (t := .int) (by with_unfolding_all rfl) rfl (by with_unfolding_all rfl) rfl
-- trader(I)I
set_option maxRecDepth 20000 in
theorem b_174_0 {d nS : Nat} {x1 : Int32} {M : am_M} {Q : Option Value → am_H → Prop} : am_Wp (d + 1) 174 0 [.ref 205, .int x1, .retAddr 0] [] (hp nS M) Q = am_Wp d 171 0 [.ref 205, .int x1, .int 0, .int 9999] [] (hp nS (am_up M 205 0 0)) (fun v h1 => am_Wp (d + 1) 174 14 [.ref 205, .int x1, .retAddr 0] (am_ans v []) h1 Q) := by
  refine (eq_run 7 (q := (11, [.ref 205, .int x1, .retAddr 0], [.int 9999, .int 0, .int x1, .ref 205], hp nS (am_up M 205 0 0))) (by with_unfolding_all rfl)).trans ?_
  exact eq_call2 (e := (.invokevirtual 144, 3, 0, 171, 275)) (as := [.ref 205, .int x1, .int 0, .int 9999]) (r := []) (n := 4) (m := 4) (by with_unfolding_all rfl) rfl (by decide) (by with_unfolding_all rfl) (by decide) (by with_unfolding_all rfl) ⟨fun _ => am_rec_ok (c := 14) (by with_unfolding_all rfl) (by decide +kernel), fun z => by simp at z⟩
set_option maxRecDepth 20000 in
theorem b_174_14 {d nS : Nat} {x1 s0 : Int32} {M : am_M} {Q : Option Value → am_H → Prop} : am_Wp d 174 14 [.ref 205, .int x1, .retAddr 0] [.int s0] (hp nS M) Q = if s0 = 0 then am_Wp d 174 26 [.ref 205, .int x1, .retAddr 0] [] (hp nS M) Q else am_Wp d 174 17 [.ref 205, .int x1, .retAddr 0] [] (hp nS M) Q := by
  exact eq_if_eq (by with_unfolding_all rfl)
set_option maxRecDepth 20000 in
theorem b_174_17 {d nS : Nat} {x1 : Int32} {M : am_M} {Q : Option Value → am_H → Prop} : am_Wp d 174 17 [.ref 205, .int x1, .retAddr 0] [] (hp nS M) Q = if ¬ (M 205 10) = 10 then am_Wp d 174 28 [.ref 205, .int x1, .retAddr 0] [] (hp nS M) Q else am_Wp d 174 26 [.ref 205, .int x1, .retAddr 0] [] (hp nS M) Q := by
  refine (eq_run 3 (q := (23, [.ref 205, .int x1, .retAddr 0], [.int 10, .int (M 205 10)], hp nS M)) (by with_unfolding_all rfl)).trans ?_
  exact eq_cmp_ne (by with_unfolding_all rfl)
set_option maxRecDepth 20000 in
theorem b_174_26 {d nS : Nat} {x1 : Int32} {M : am_M} {Q : Option Value → am_H → Prop} : am_Wp d 174 26 [.ref 205, .int x1, .retAddr 0] [] (hp nS M) Q = Q (some (.int (-1))) (hp nS M) := by
  refine (eq_run 1 (q := (27, [.ref 205, .int x1, .retAddr 0], [.int (-1)], hp nS M)) (by with_unfolding_all rfl)).trans ?_
  exact eq_retI2 (e := (.ireturn, 1, 0, 0, 0)) (t := .int) (by with_unfolding_all rfl) rfl (by with_unfolding_all rfl) rfl
set_option maxRecDepth 20000 in
theorem b_174_28 {d nS : Nat} {x1 : Int32} {M : am_M} {Q : Option Value → am_H → Prop} (h1 : vp_in (36 + (M 205 10)) 136) (h2 : vp_in (46 + ((am_up M 206 (36 + (M 205 10)).toNatClampNeg x1) 205 10)) 136) : am_Wp d 174 28 [.ref 205, .int x1, .retAddr 0] [] (hp nS M) Q = am_Wp d 174 56 [.ref 205, .int x1, .int 0] [] (hp nS (am_up (am_up M 206 (36 + (M 205 10)).toNatClampNeg x1) 206 (46 + ((am_up M 206 (36 + (M 205 10)).toNatClampNeg x1) 205 10)).toNatClampNeg 0)) Q := by
  refine (eq_run 7 (q := (40, [.ref 205, .int x1, .retAddr 0], [.int x1, .int (36 + (M 205 10)), .ref 206], hp nS M)) (by with_unfolding_all rfl)).trans ?_
  refine (eq_ast (e := (.iastore, 1, 0, 0, 0)) (by with_unfolding_all rfl) rfl (n := 136) (by with_unfolding_all rfl) (by decide) h1).trans ?_
  refine (eq_run 7 (q := (53, [.ref 205, .int x1, .retAddr 0], [.int 0, .int (46 + ((am_up M 206 (36 + (M 205 10)).toNatClampNeg x1) 205 10)), .ref 206], hp nS (am_up M 206 (36 + (M 205 10)).toNatClampNeg x1))) (by with_unfolding_all rfl)).trans ?_
  refine (eq_ast (e := (.iastore, 1, 0, 0, 0)) (by with_unfolding_all rfl) rfl (n := 136) (by with_unfolding_all rfl) (by decide) h2).trans ?_
  exact eq_run 2 (q := (56, [.ref 205, .int x1, .int 0], [], hp nS (am_up (am_up M 206 (36 + (M 205 10)).toNatClampNeg x1) 206 (46 + ((am_up M 206 (36 + (M 205 10)).toNatClampNeg x1) 205 10)).toNatClampNeg 0))) (by with_unfolding_all rfl)
set_option maxRecDepth 20000 in
theorem b_174_56 {d nS : Nat} {x1 x2 : Int32} {M : am_M} {Q : Option Value → am_H → Prop} : am_Wp d 174 56 [.ref 205, .int x1, .int x2] [] (hp nS M) Q = if 8 ≤ x2 then am_Wp d 174 83 [.ref 205, .int x1, .int x2] [] (hp nS M) Q else am_Wp d 174 62 [.ref 205, .int x1, .int x2] [] (hp nS M) Q := by
  refine (eq_run 2 (q := (59, [.ref 205, .int x1, .int x2], [.int 8, .int x2], hp nS M)) (by with_unfolding_all rfl)).trans ?_
  exact eq_cmp_ge (by with_unfolding_all rfl)
set_option maxRecDepth 20000 in
theorem b_174_62 {d nS : Nat} {x1 x2 : Int32} {M : am_M} {Q : Option Value → am_H → Prop} : am_Wp (d + 1) 174 62 [.ref 205, .int x1, .int x2] [] (hp nS M) Q = am_Wp d 173 0 [.ref 205, .int (M 205 10), .int x2] [] (hp nS M) (fun v h1 => am_Wp (d + 1) 174 75 [.ref 205, .int x1, .int x2] (am_ans v [.ref 206]) h1 Q) := by
  refine (eq_run 6 (q := (72, [.ref 205, .int x1, .int x2], [.int x2, .int (M 205 10), .ref 205, .ref 206], hp nS M)) (by with_unfolding_all rfl)).trans ?_
  exact eq_call2 (e := (.invokevirtual 148, 3, 0, 173, 276)) (as := [.ref 205, .int (M 205 10), .int x2]) (r := [.ref 206]) (n := 3) (m := 3) (by with_unfolding_all rfl) rfl (by decide) (by with_unfolding_all rfl) (by decide) (by with_unfolding_all rfl) ⟨fun _ => am_rec_ok (c := 14) (by with_unfolding_all rfl) (by decide +kernel), fun z => by simp at z⟩
set_option maxRecDepth 20000 in
theorem b_174_75 {d nS : Nat} {x1 x2 s1 : Int32} {M : am_M} {Q : Option Value → am_H → Prop} (h1 : vp_in s1 136) : am_Wp d 174 75 [.ref 205, .int x1, .int x2] [.int s1, .ref 206] (hp nS M) Q = am_Wp d 174 56 [.ref 205, .int x1, .int (x2 + 1)] [] (hp nS (am_up M 206 s1.toNatClampNeg 0)) Q := by
  refine (eq_run 1 (q := (76, [.ref 205, .int x1, .int x2], [.int 0, .int s1, .ref 206], hp nS M)) (by with_unfolding_all rfl)).trans ?_
  refine (eq_ast (e := (.iastore, 1, 0, 0, 0)) (by with_unfolding_all rfl) rfl (n := 136) (by with_unfolding_all rfl) (by decide) h1).trans ?_
  exact eq_run 2 (q := (56, [.ref 205, .int x1, .int (x2 + 1)], [], hp nS (am_up M 206 s1.toNatClampNeg 0))) (by with_unfolding_all rfl)
set_option maxRecDepth 20000 in
theorem b_174_83 {d nS : Nat} {x1 x2 : Int32} {M : am_M} {Q : Option Value → am_H → Prop} : am_Wp d 174 83 [.ref 205, .int x1, .int x2] [] (hp nS M) Q = Q (some (.int (((am_up (am_up M 205 10 ((M 205 10) + 1)) 205 5 0) 205 10) - 1))) (hp nS (am_up (am_up M 205 10 ((M 205 10) + 1)) 205 5 0)) := by
  refine (eq_run 13 (q := (104, [.ref 205, .int x1, .int x2], [.int (((am_up (am_up M 205 10 ((M 205 10) + 1)) 205 5 0) 205 10) - 1)], hp nS (am_up (am_up M 205 10 ((M 205 10) + 1)) 205 5 0))) (by with_unfolding_all rfl)).trans ?_
  exact eq_retI2 (e := (.ireturn, 1, 0, 0, 0)) (t := .int) (by with_unfolding_all rfl) rfl (by with_unfolding_all rfl) rfl
-- set(III)Z
set_option maxRecDepth 20000 in
theorem b_175_0 {d nS : Nat} {x1 x2 x3 : Int32} {M : am_M} {Q : Option Value → am_H → Prop} : am_Wp (d + 1) 175 0 [.ref 205, .int x1, .int x2, .int x3] [] (hp nS M) Q = am_Wp d 176 0 [.ref 205, .int x1, .int x2, .int x3] [] (hp nS (am_up M 205 0 0)) (fun v h1 => am_Wp (d + 1) 175 12 [.ref 205, .int x1, .int x2, .int x3] (am_ans v []) h1 Q) := by
  refine (eq_run 7 (q := (9, [.ref 205, .int x1, .int x2, .int x3], [.int x3, .int x2, .int x1, .ref 205], hp nS (am_up M 205 0 0))) (by with_unfolding_all rfl)).trans ?_
  exact eq_call2 (e := (.invokevirtual 161, 3, 0, 176, 280)) (as := [.ref 205, .int x1, .int x2, .int x3]) (r := []) (n := 4) (m := 4) (by with_unfolding_all rfl) rfl (by decide) (by with_unfolding_all rfl) (by decide) (by with_unfolding_all rfl) ⟨fun _ => am_rec_ok (c := 14) (by with_unfolding_all rfl) (by decide +kernel), fun z => by simp at z⟩
set_option maxRecDepth 20000 in
theorem b_175_12 {d nS : Nat} {x1 x2 x3 s0 : Int32} {M : am_M} {Q : Option Value → am_H → Prop} : am_Wp d 175 12 [.ref 205, .int x1, .int x2, .int x3] [.int s0] (hp nS M) Q = if ¬ s0 = 0 then am_Wp d 175 17 [.ref 205, .int x1, .int x2, .int x3] [] (hp nS M) Q else am_Wp d 175 15 [.ref 205, .int x1, .int x2, .int x3] [] (hp nS M) Q := by
  exact eq_if_ne (by with_unfolding_all rfl)
set_option maxRecDepth 20000 in
theorem b_175_15 {d nS : Nat} {x1 x2 x3 : Int32} {M : am_M} {Q : Option Value → am_H → Prop} : am_Wp d 175 15 [.ref 205, .int x1, .int x2, .int x3] [] (hp nS M) Q = Q (some (.int 0)) (hp nS M) := by
  refine (eq_run 1 (q := (16, [.ref 205, .int x1, .int x2, .int x3], [.int 0], hp nS M)) (by with_unfolding_all rfl)).trans ?_
  exact eq_retI2 (e := (.ireturn, 1, 0, 0, 0)) (t := .boolean) (by with_unfolding_all rfl) rfl (by with_unfolding_all rfl) rfl
set_option maxRecDepth 20000 in
theorem b_175_17 {d nS : Nat} {x1 x2 x3 : Int32} {M : am_M} {Q : Option Value → am_H → Prop} : am_Wp d 175 17 [.ref 205, .int x1, .int x2, .int x3] [] (hp nS M) Q = if ¬ x1 = 0 then am_Wp d 175 28 [.ref 205, .int x1, .int x2, .int x3] [] (hp nS M) Q else am_Wp d 175 21 [.ref 205, .int x1, .int x2, .int x3] [] (hp nS M) Q := by
  refine (eq_run 1 (q := (18, [.ref 205, .int x1, .int x2, .int x3], [.int x1], hp nS M)) (by with_unfolding_all rfl)).trans ?_
  exact eq_if_ne (by with_unfolding_all rfl)
set_option maxRecDepth 20000 in
theorem b_175_21 {d nS : Nat} {x1 x2 x3 : Int32} {M : am_M} {Q : Option Value → am_H → Prop} (h1 : vp_in x2 6) : am_Wp d 175 21 [.ref 205, .int x1, .int x2, .int x3] [] (hp nS M) Q = am_Wp d 175 28 [.ref 205, .int x1, .int x2, .int x3] [] (hp nS (am_up M 209 x2.toNatClampNeg x3)) Q := by
  refine (eq_run 4 (q := (27, [.ref 205, .int x1, .int x2, .int x3], [.int x3, .int x2, .ref 209], hp nS M)) (by with_unfolding_all rfl)).trans ?_
  exact eq_ast (e := (.iastore, 1, 0, 0, 0)) (by with_unfolding_all rfl) rfl (n := 6) (by with_unfolding_all rfl) (by decide) h1
set_option maxRecDepth 20000 in
theorem b_175_28 {d nS : Nat} {x1 x2 x3 : Int32} {M : am_M} {Q : Option Value → am_H → Prop} : am_Wp d 175 28 [.ref 205, .int x1, .int x2, .int x3] [] (hp nS M) Q = if ¬ x1 = 1 then am_Wp d 175 42 [.ref 205, .int x1, .int x2, .int x3] [] (hp nS M) Q else am_Wp d 175 33 [.ref 205, .int x1, .int x2, .int x3] [] (hp nS M) Q := by
  refine (eq_run 2 (q := (30, [.ref 205, .int x1, .int x2, .int x3], [.int 1, .int x1], hp nS M)) (by with_unfolding_all rfl)).trans ?_
  exact eq_cmp_ne (by with_unfolding_all rfl)
set_option maxRecDepth 20000 in
theorem b_175_33 {d nS : Nat} {x1 x2 x3 : Int32} {M : am_M} {Q : Option Value → am_H → Prop} (h1 : vp_in (4 + x2) 136) : am_Wp d 175 33 [.ref 205, .int x1, .int x2, .int x3] [] (hp nS M) Q = am_Wp d 175 42 [.ref 205, .int x1, .int x2, .int x3] [] (hp nS (am_up M 206 (4 + x2).toNatClampNeg x3)) Q := by
  refine (eq_run 6 (q := (41, [.ref 205, .int x1, .int x2, .int x3], [.int x3, .int (4 + x2), .ref 206], hp nS M)) (by with_unfolding_all rfl)).trans ?_
  exact eq_ast (e := (.iastore, 1, 0, 0, 0)) (by with_unfolding_all rfl) rfl (n := 136) (by with_unfolding_all rfl) (by decide) h1
set_option maxRecDepth 20000 in
theorem b_175_42 {d nS : Nat} {x1 x2 x3 : Int32} {M : am_M} {Q : Option Value → am_H → Prop} : am_Wp d 175 42 [.ref 205, .int x1, .int x2, .int x3] [] (hp nS M) Q = if ¬ x1 = 2 then am_Wp d 175 57 [.ref 205, .int x1, .int x2, .int x3] [] (hp nS M) Q else am_Wp d 175 47 [.ref 205, .int x1, .int x2, .int x3] [] (hp nS M) Q := by
  refine (eq_run 2 (q := (44, [.ref 205, .int x1, .int x2, .int x3], [.int 2, .int x1], hp nS M)) (by with_unfolding_all rfl)).trans ?_
  exact eq_cmp_ne (by with_unfolding_all rfl)
set_option maxRecDepth 20000 in
theorem b_175_47 {d nS : Nat} {x1 x2 x3 : Int32} {M : am_M} {Q : Option Value → am_H → Prop} (h1 : vp_in (22 + x2) 136) : am_Wp d 175 47 [.ref 205, .int x1, .int x2, .int x3] [] (hp nS M) Q = am_Wp d 175 57 [.ref 205, .int x1, .int x2, .int x3] [] (hp nS (am_up M 206 (22 + x2).toNatClampNeg x3)) Q := by
  refine (eq_run 6 (q := (56, [.ref 205, .int x1, .int x2, .int x3], [.int x3, .int (22 + x2), .ref 206], hp nS M)) (by with_unfolding_all rfl)).trans ?_
  exact eq_ast (e := (.iastore, 1, 0, 0, 0)) (by with_unfolding_all rfl) rfl (n := 136) (by with_unfolding_all rfl) (by decide) h1
set_option maxRecDepth 20000 in
theorem b_175_57 {d nS : Nat} {x1 x2 x3 : Int32} {M : am_M} {Q : Option Value → am_H → Prop} : am_Wp d 175 57 [.ref 205, .int x1, .int x2, .int x3] [] (hp nS M) Q = if ¬ x1 = 3 then am_Wp d 175 69 [.ref 205, .int x1, .int x2, .int x3] [] (hp nS M) Q else am_Wp d 175 62 [.ref 205, .int x1, .int x2, .int x3] [] (hp nS M) Q := by
  refine (eq_run 2 (q := (59, [.ref 205, .int x1, .int x2, .int x3], [.int 3, .int x1], hp nS M)) (by with_unfolding_all rfl)).trans ?_
  exact eq_cmp_ne (by with_unfolding_all rfl)
set_option maxRecDepth 20000 in
theorem b_175_62 {d nS : Nat} {x1 x2 x3 : Int32} {M : am_M} {Q : Option Value → am_H → Prop} (h1 : vp_in x2 8) : am_Wp d 175 62 [.ref 205, .int x1, .int x2, .int x3] [] (hp nS M) Q = am_Wp d 175 69 [.ref 205, .int x1, .int x2, .int x3] [] (hp nS (am_up M 210 x2.toNatClampNeg x3)) Q := by
  refine (eq_run 4 (q := (68, [.ref 205, .int x1, .int x2, .int x3], [.int x3, .int x2, .ref 210], hp nS M)) (by with_unfolding_all rfl)).trans ?_
  exact eq_ast (e := (.iastore, 1, 0, 0, 0)) (by with_unfolding_all rfl) rfl (n := 8) (by with_unfolding_all rfl) (by decide) h1
set_option maxRecDepth 20000 in
theorem b_175_69 {d nS : Nat} {x1 x2 x3 : Int32} {M : am_M} {Q : Option Value → am_H → Prop} : am_Wp d 175 69 [.ref 205, .int x1, .int x2, .int x3] [] (hp nS M) Q = if ¬ x1 = 4 then am_Wp d 175 84 [.ref 205, .int x1, .int x2, .int x3] [] (hp nS M) Q else am_Wp d 175 74 [.ref 205, .int x1, .int x2, .int x3] [] (hp nS M) Q := by
  refine (eq_run 2 (q := (71, [.ref 205, .int x1, .int x2, .int x3], [.int 4, .int x1], hp nS M)) (by with_unfolding_all rfl)).trans ?_
  exact eq_cmp_ne (by with_unfolding_all rfl)
set_option maxRecDepth 20000 in
theorem b_175_74 {d nS : Nat} {x1 x2 x3 : Int32} {M : am_M} {Q : Option Value → am_H → Prop} (h1 : vp_in (28 + x2) 136) : am_Wp d 175 74 [.ref 205, .int x1, .int x2, .int x3] [] (hp nS M) Q = am_Wp d 175 84 [.ref 205, .int x1, .int x2, .int x3] [] (hp nS (am_up M 206 (28 + x2).toNatClampNeg x3)) Q := by
  refine (eq_run 6 (q := (83, [.ref 205, .int x1, .int x2, .int x3], [.int x3, .int (28 + x2), .ref 206], hp nS M)) (by with_unfolding_all rfl)).trans ?_
  exact eq_ast (e := (.iastore, 1, 0, 0, 0)) (by with_unfolding_all rfl) rfl (n := 136) (by with_unfolding_all rfl) (by decide) h1
set_option maxRecDepth 20000 in
theorem b_175_84 {d nS : Nat} {x1 x2 x3 : Int32} {M : am_M} {Q : Option Value → am_H → Prop} : am_Wp d 175 84 [.ref 205, .int x1, .int x2, .int x3] [] (hp nS M) Q = if ¬ x1 = 5 then am_Wp d 175 99 [.ref 205, .int x1, .int x2, .int x3] [] (hp nS M) Q else am_Wp d 175 89 [.ref 205, .int x1, .int x2, .int x3] [] (hp nS M) Q := by
  refine (eq_run 2 (q := (86, [.ref 205, .int x1, .int x2, .int x3], [.int 5, .int x1], hp nS M)) (by with_unfolding_all rfl)).trans ?_
  exact eq_cmp_ne (by with_unfolding_all rfl)
set_option maxRecDepth 20000 in
theorem b_175_89 {d nS : Nat} {x1 x2 x3 : Int32} {M : am_M} {Q : Option Value → am_H → Prop} (h1 : vp_in (36 + x2) 136) : am_Wp d 175 89 [.ref 205, .int x1, .int x2, .int x3] [] (hp nS M) Q = am_Wp d 175 99 [.ref 205, .int x1, .int x2, .int x3] [] (hp nS (am_up M 206 (36 + x2).toNatClampNeg x3)) Q := by
  refine (eq_run 6 (q := (98, [.ref 205, .int x1, .int x2, .int x3], [.int x3, .int (36 + x2), .ref 206], hp nS M)) (by with_unfolding_all rfl)).trans ?_
  exact eq_ast (e := (.iastore, 1, 0, 0, 0)) (by with_unfolding_all rfl) rfl (n := 136) (by with_unfolding_all rfl) (by decide) h1
set_option maxRecDepth 20000 in
theorem b_175_99 {d nS : Nat} {x1 x2 x3 : Int32} {M : am_M} {Q : Option Value → am_H → Prop} : am_Wp d 175 99 [.ref 205, .int x1, .int x2, .int x3] [] (hp nS M) Q = if ¬ x1 = 6 then am_Wp d 175 112 [.ref 205, .int x1, .int x2, .int x3] [] (hp nS M) Q else am_Wp d 175 105 [.ref 205, .int x1, .int x2, .int x3] [] (hp nS M) Q := by
  refine (eq_run 2 (q := (102, [.ref 205, .int x1, .int x2, .int x3], [.int 6, .int x1], hp nS M)) (by with_unfolding_all rfl)).trans ?_
  exact eq_cmp_ne (by with_unfolding_all rfl)
set_option maxRecDepth 20000 in
theorem b_175_105 {d nS : Nat} {x1 x2 x3 : Int32} {M : am_M} {Q : Option Value → am_H → Prop} : am_Wp d 175 105 [.ref 205, .int x1, .int x2, .int x3] [] (hp nS M) Q = am_Wp d 175 112 [.ref 205, .int x1, .int x2, .int x3] [] (hp nS (am_up M 206 3 x3)) Q := by
  exact eq_run 5 (q := (112, [.ref 205, .int x1, .int x2, .int x3], [], hp nS (am_up M 206 3 x3))) (by with_unfolding_all rfl)
set_option maxRecDepth 20000 in
theorem b_175_112 {d nS : Nat} {x1 x2 x3 : Int32} {M : am_M} {Q : Option Value → am_H → Prop} : am_Wp d 175 112 [.ref 205, .int x1, .int x2, .int x3] [] (hp nS M) Q = Q (some (.int 1)) (hp nS (am_up M 205 5 0)) := by
  refine (eq_run 4 (q := (118, [.ref 205, .int x1, .int x2, .int x3], [.int 1], hp nS (am_up M 205 5 0))) (by with_unfolding_all rfl)).trans ?_
  exact eq_retI2 (e := (.ireturn, 1, 0, 0, 0)) (t := .boolean) (by with_unfolding_all rfl) rfl (by with_unfolding_all rfl) rfl
-- canSet(III)Z
set_option maxRecDepth 20000 in
theorem b_176_0 {d nS : Nat} {x1 x2 x3 : Int32} {M : am_M} {Q : Option Value → am_H → Prop} : am_Wp d 176 0 [.ref 205, .int x1, .int x2, .int x3] [] (hp nS M) Q = if ¬ x1 = 6 then am_Wp d 176 15 [.ref 205, .int x1, .int x2, .int x3] [] (hp nS M) Q else am_Wp d 176 6 [.ref 205, .int x1, .int x2, .int x3] [] (hp nS M) Q := by
  refine (eq_run 2 (q := (3, [.ref 205, .int x1, .int x2, .int x3], [.int 6, .int x1], hp nS M)) (by with_unfolding_all rfl)).trans ?_
  exact eq_cmp_ne (by with_unfolding_all rfl)
set_option maxRecDepth 20000 in
theorem b_176_6 {d nS : Nat} {x1 x2 x3 : Int32} {M : am_M} {Q : Option Value → am_H → Prop} : am_Wp (d + 1) 176 6 [.ref 205, .int x1, .int x2, .int x3] [] (hp nS M) Q = am_Wp d 171 0 [.ref 205, .int x3, .int 0, .int 9] [] (hp nS M) (fun v h1 => am_Wp (d + 1) 176 14 [.ref 205, .int x1, .int x2, .int x3] (am_ans v []) h1 Q) := by
  refine (eq_run 4 (q := (11, [.ref 205, .int x1, .int x2, .int x3], [.int 9, .int 0, .int x3, .ref 205], hp nS M)) (by with_unfolding_all rfl)).trans ?_
  exact eq_call2 (e := (.invokevirtual 144, 3, 0, 171, 275)) (as := [.ref 205, .int x3, .int 0, .int 9]) (r := []) (n := 4) (m := 4) (by with_unfolding_all rfl) rfl (by decide) (by with_unfolding_all rfl) (by decide) (by with_unfolding_all rfl) ⟨fun _ => am_rec_ok (c := 14) (by with_unfolding_all rfl) (by decide +kernel), fun z => by simp at z⟩
set_option maxRecDepth 20000 in
theorem b_176_14 {d nS : Nat} {x1 x2 x3 s0 : Int32} {M : am_M} {Q : Option Value → am_H → Prop} (h1 : am_rok .boolean s0 = true) : am_Wp d 176 14 [.ref 205, .int x1, .int x2, .int x3] [.int s0] (hp nS M) Q = Q (some (.int s0)) (hp nS M) := by
  exact eq_retI2 (e := (.ireturn, 1, 0, 0, 0)) (t := .boolean) (by with_unfolding_all rfl) rfl (by with_unfolding_all rfl) h1
set_option maxRecDepth 20000 in
theorem b_176_15 {d nS : Nat} {x1 x2 x3 : Int32} {M : am_M} {Q : Option Value → am_H → Prop} : am_Wp (d + 1) 176 15 [.ref 205, .int x1, .int x2, .int x3] [] (hp nS M) Q = am_Wp d 171 0 [.ref 205, .int x1, .int 0, .int 2] [] (hp nS M) (fun v h1 => am_Wp (d + 1) 176 22 [.ref 205, .int x1, .int x2, .int x3] (am_ans v []) h1 Q) := by
  refine (eq_run 4 (q := (19, [.ref 205, .int x1, .int x2, .int x3], [.int 2, .int 0, .int x1, .ref 205], hp nS M)) (by with_unfolding_all rfl)).trans ?_
  exact eq_call2 (e := (.invokevirtual 144, 3, 0, 171, 275)) (as := [.ref 205, .int x1, .int 0, .int 2]) (r := []) (n := 4) (m := 4) (by with_unfolding_all rfl) rfl (by decide) (by with_unfolding_all rfl) (by decide) (by with_unfolding_all rfl) ⟨fun _ => am_rec_ok (c := 14) (by with_unfolding_all rfl) (by decide +kernel), fun z => by simp at z⟩
set_option maxRecDepth 20000 in
theorem b_176_22 {d nS : Nat} {x1 x2 x3 s0 : Int32} {M : am_M} {Q : Option Value → am_H → Prop} : am_Wp d 176 22 [.ref 205, .int x1, .int x2, .int x3] [.int s0] (hp nS M) Q = if s0 = 0 then am_Wp d 176 61 [.ref 205, .int x1, .int x2, .int x3] [] (hp nS M) Q else am_Wp d 176 25 [.ref 205, .int x1, .int x2, .int x3] [] (hp nS M) Q := by
  exact eq_if_eq (by with_unfolding_all rfl)
set_option maxRecDepth 20000 in
theorem b_176_25 {d nS : Nat} {x1 x2 x3 : Int32} {M : am_M} {Q : Option Value → am_H → Prop} : am_Wp (d + 1) 176 25 [.ref 205, .int x1, .int x2, .int x3] [] (hp nS M) Q = am_Wp d 177 0 [.ref 205, .int x2] [] (hp nS M) (fun v h1 => am_Wp (d + 1) 176 30 [.ref 205, .int x1, .int x2, .int x3] (am_ans v []) h1 Q) := by
  refine (eq_run 2 (q := (27, [.ref 205, .int x1, .int x2, .int x3], [.int x2, .ref 205], hp nS M)) (by with_unfolding_all rfl)).trans ?_
  exact eq_call2 (e := (.invokevirtual 151, 3, 0, 177, 277)) (as := [.ref 205, .int x2]) (r := []) (n := 2) (m := 2) (by with_unfolding_all rfl) rfl (by decide) (by with_unfolding_all rfl) (by decide) (by with_unfolding_all rfl) ⟨fun _ => am_rec_ok (c := 14) (by with_unfolding_all rfl) (by decide +kernel), fun z => by simp at z⟩
set_option maxRecDepth 20000 in
theorem b_176_30 {d nS : Nat} {x1 x2 x3 s0 : Int32} {M : am_M} {Q : Option Value → am_H → Prop} : am_Wp d 176 30 [.ref 205, .int x1, .int x2, .int x3] [.int s0] (hp nS M) Q = if s0 = 0 then am_Wp d 176 59 [.ref 205, .int x1, .int x2, .int x3] [] (hp nS M) Q else am_Wp d 176 33 [.ref 205, .int x1, .int x2, .int x3] [] (hp nS M) Q := by
  exact eq_if_eq (by with_unfolding_all rfl)
set_option maxRecDepth 20000 in
theorem b_176_33 {d nS : Nat} {x1 x2 x3 : Int32} {M : am_M} {Q : Option Value → am_H → Prop} : am_Wp d 176 33 [.ref 205, .int x1, .int x2, .int x3] [] (hp nS M) Q = if ¬ x1 = 1 then am_Wp d 176 47 [.ref 205, .int x1, .int x2, .int x3] [.int 0, .int x3, .ref 205] (hp nS M) Q else am_Wp d 176 41 [.ref 205, .int x1, .int x2, .int x3] [.int 0, .int x3, .ref 205] (hp nS M) Q := by
  refine (eq_run 5 (q := (38, [.ref 205, .int x1, .int x2, .int x3], [.int 1, .int x1, .int 0, .int x3, .ref 205], hp nS M)) (by with_unfolding_all rfl)).trans ?_
  exact eq_cmp_ne (by with_unfolding_all rfl)
set_option maxRecDepth 20000 in
theorem b_176_41 {d nS : Nat} {x1 x2 x3 s1 s2 : Int32} {M : am_M} {Q : Option Value → am_H → Prop} : am_Wp d 176 41 [.ref 205, .int x1, .int x2, .int x3] [.int s2, .int s1, .ref 205] (hp nS M) Q = am_Wp d 176 49 [.ref 205, .int x1, .int x2, .int x3] [.int 999, .int s2, .int s1, .ref 205] (hp nS M) Q := by
  exact eq_run 2 (q := (49, [.ref 205, .int x1, .int x2, .int x3], [.int 999, .int s2, .int s1, .ref 205], hp nS M)) (by with_unfolding_all rfl)
set_option maxRecDepth 20000 in
theorem b_176_47 {d nS : Nat} {x1 x2 x3 s1 s2 : Int32} {M : am_M} {Q : Option Value → am_H → Prop} : am_Wp d 176 47 [.ref 205, .int x1, .int x2, .int x3] [.int s2, .int s1, .ref 205] (hp nS M) Q = am_Wp d 176 49 [.ref 205, .int x1, .int x2, .int x3] [.int 9, .int s2, .int s1, .ref 205] (hp nS M) Q := by
  exact eq_run 1 (q := (49, [.ref 205, .int x1, .int x2, .int x3], [.int 9, .int s2, .int s1, .ref 205], hp nS M)) (by with_unfolding_all rfl)
set_option maxRecDepth 20000 in
theorem b_176_49 {d nS : Nat} {x1 x2 x3 s1 s2 s3 : Int32} {M : am_M} {Q : Option Value → am_H → Prop} : am_Wp (d + 1) 176 49 [.ref 205, .int x1, .int x2, .int x3] [.int s3, .int s2, .int s1, .ref 205] (hp nS M) Q = am_Wp d 171 0 [.ref 205, .int s1, .int s2, .int s3] [] (hp nS M) (fun v h1 => am_Wp (d + 1) 176 52 [.ref 205, .int x1, .int x2, .int x3] (am_ans v []) h1 Q) := by
  exact eq_call2 (e := (.invokevirtual 144, 3, 0, 171, 275)) (as := [.ref 205, .int s1, .int s2, .int s3]) (r := []) (n := 4) (m := 4) (by with_unfolding_all rfl) rfl (by decide) (by with_unfolding_all rfl) (by decide) (by with_unfolding_all rfl) ⟨fun _ => am_rec_ok (c := 14) (by with_unfolding_all rfl) (by decide +kernel), fun z => by simp at z⟩
set_option maxRecDepth 20000 in
theorem b_176_52 {d nS : Nat} {x1 x2 x3 s0 : Int32} {M : am_M} {Q : Option Value → am_H → Prop} : am_Wp d 176 52 [.ref 205, .int x1, .int x2, .int x3] [.int s0] (hp nS M) Q = if s0 = 0 then am_Wp d 176 59 [.ref 205, .int x1, .int x2, .int x3] [] (hp nS M) Q else am_Wp d 176 55 [.ref 205, .int x1, .int x2, .int x3] [] (hp nS M) Q := by
  exact eq_if_eq (by with_unfolding_all rfl)
set_option maxRecDepth 20000 in
theorem b_176_55 {d nS : Nat} {x1 x2 x3 : Int32} {M : am_M} {Q : Option Value → am_H → Prop} : am_Wp d 176 55 [.ref 205, .int x1, .int x2, .int x3] [] (hp nS M) Q = am_Wp d 176 60 [.ref 205, .int x1, .int x2, .int x3] [.int 1] (hp nS M) Q := by
  exact eq_run 2 (q := (60, [.ref 205, .int x1, .int x2, .int x3], [.int 1], hp nS M)) (by with_unfolding_all rfl)
set_option maxRecDepth 20000 in
theorem b_176_59 {d nS : Nat} {x1 x2 x3 : Int32} {M : am_M} {Q : Option Value → am_H → Prop} : am_Wp d 176 59 [.ref 205, .int x1, .int x2, .int x3] [] (hp nS M) Q = am_Wp d 176 60 [.ref 205, .int x1, .int x2, .int x3] [.int 0] (hp nS M) Q := by
  exact eq_run 1 (q := (60, [.ref 205, .int x1, .int x2, .int x3], [.int 0], hp nS M)) (by with_unfolding_all rfl)
set_option maxRecDepth 20000 in
theorem b_176_60 {d nS : Nat} {x1 x2 x3 s0 : Int32} {M : am_M} {Q : Option Value → am_H → Prop} (h1 : am_rok .boolean s0 = true) : am_Wp d 176 60 [.ref 205, .int x1, .int x2, .int x3] [.int s0] (hp nS M) Q = Q (some (.int s0)) (hp nS M) := by
  exact eq_retI2 (e := (.ireturn, 1, 0, 0, 0)) (t := .boolean) (by with_unfolding_all rfl) rfl (by with_unfolding_all rfl) h1
set_option maxRecDepth 20000 in
theorem b_176_61 {d nS : Nat} {x1 x2 x3 : Int32} {M : am_M} {Q : Option Value → am_H → Prop} : am_Wp (d + 1) 176 61 [.ref 205, .int x1, .int x2, .int x3] [] (hp nS M) Q = am_Wp d 171 0 [.ref 205, .int x1, .int 3, .int 4] [] (hp nS M) (fun v h1 => am_Wp (d + 1) 176 68 [.ref 205, .int x1, .int x2, .int x3] (am_ans v []) h1 Q) := by
  refine (eq_run 4 (q := (65, [.ref 205, .int x1, .int x2, .int x3], [.int 4, .int 3, .int x1, .ref 205], hp nS M)) (by with_unfolding_all rfl)).trans ?_
  exact eq_call2 (e := (.invokevirtual 144, 3, 0, 171, 275)) (as := [.ref 205, .int x1, .int 3, .int 4]) (r := []) (n := 4) (m := 4) (by with_unfolding_all rfl) rfl (by decide) (by with_unfolding_all rfl) (by decide) (by with_unfolding_all rfl) ⟨fun _ => am_rec_ok (c := 14) (by with_unfolding_all rfl) (by decide +kernel), fun z => by simp at z⟩
set_option maxRecDepth 20000 in
theorem b_176_68 {d nS : Nat} {x1 x2 x3 s0 : Int32} {M : am_M} {Q : Option Value → am_H → Prop} : am_Wp d 176 68 [.ref 205, .int x1, .int x2, .int x3] [.int s0] (hp nS M) Q = if s0 = 0 then am_Wp d 176 107 [.ref 205, .int x1, .int x2, .int x3] [] (hp nS M) Q else am_Wp d 176 71 [.ref 205, .int x1, .int x2, .int x3] [] (hp nS M) Q := by
  exact eq_if_eq (by with_unfolding_all rfl)
set_option maxRecDepth 20000 in
theorem b_176_71 {d nS : Nat} {x1 x2 x3 : Int32} {M : am_M} {Q : Option Value → am_H → Prop} : am_Wp (d + 1) 176 71 [.ref 205, .int x1, .int x2, .int x3] [] (hp nS M) Q = am_Wp d 178 0 [.ref 205, .int x2] [] (hp nS M) (fun v h1 => am_Wp (d + 1) 176 76 [.ref 205, .int x1, .int x2, .int x3] (am_ans v []) h1 Q) := by
  refine (eq_run 2 (q := (73, [.ref 205, .int x1, .int x2, .int x3], [.int x2, .ref 205], hp nS M)) (by with_unfolding_all rfl)).trans ?_
  exact eq_call2 (e := (.invokevirtual 155, 3, 0, 178, 278)) (as := [.ref 205, .int x2]) (r := []) (n := 2) (m := 2) (by with_unfolding_all rfl) rfl (by decide) (by with_unfolding_all rfl) (by decide) (by with_unfolding_all rfl) ⟨fun _ => am_rec_ok (c := 14) (by with_unfolding_all rfl) (by decide +kernel), fun z => by simp at z⟩
set_option maxRecDepth 20000 in
theorem b_176_76 {d nS : Nat} {x1 x2 x3 s0 : Int32} {M : am_M} {Q : Option Value → am_H → Prop} : am_Wp d 176 76 [.ref 205, .int x1, .int x2, .int x3] [.int s0] (hp nS M) Q = if s0 = 0 then am_Wp d 176 105 [.ref 205, .int x1, .int x2, .int x3] [] (hp nS M) Q else am_Wp d 176 79 [.ref 205, .int x1, .int x2, .int x3] [] (hp nS M) Q := by
  exact eq_if_eq (by with_unfolding_all rfl)
set_option maxRecDepth 20000 in
theorem b_176_79 {d nS : Nat} {x1 x2 x3 : Int32} {M : am_M} {Q : Option Value → am_H → Prop} : am_Wp d 176 79 [.ref 205, .int x1, .int x2, .int x3] [] (hp nS M) Q = if ¬ x1 = 3 then am_Wp d 176 92 [.ref 205, .int x1, .int x2, .int x3] [.int 1, .int x3, .ref 205] (hp nS M) Q else am_Wp d 176 87 [.ref 205, .int x1, .int x2, .int x3] [.int 1, .int x3, .ref 205] (hp nS M) Q := by
  refine (eq_run 5 (q := (84, [.ref 205, .int x1, .int x2, .int x3], [.int 3, .int x1, .int 1, .int x3, .ref 205], hp nS M)) (by with_unfolding_all rfl)).trans ?_
  exact eq_cmp_ne (by with_unfolding_all rfl)
set_option maxRecDepth 20000 in
theorem b_176_87 {d nS : Nat} {x1 x2 x3 s1 s2 : Int32} {M : am_M} {Q : Option Value → am_H → Prop} : am_Wp d 176 87 [.ref 205, .int x1, .int x2, .int x3] [.int s2, .int s1, .ref 205] (hp nS M) Q = am_Wp d 176 95 [.ref 205, .int x1, .int x2, .int x3] [.int 99, .int s2, .int s1, .ref 205] (hp nS M) Q := by
  exact eq_run 2 (q := (95, [.ref 205, .int x1, .int x2, .int x3], [.int 99, .int s2, .int s1, .ref 205], hp nS M)) (by with_unfolding_all rfl)
set_option maxRecDepth 20000 in
theorem b_176_92 {d nS : Nat} {x1 x2 x3 s1 s2 : Int32} {M : am_M} {Q : Option Value → am_H → Prop} : am_Wp d 176 92 [.ref 205, .int x1, .int x2, .int x3] [.int s2, .int s1, .ref 205] (hp nS M) Q = am_Wp d 176 95 [.ref 205, .int x1, .int x2, .int x3] [.int 999, .int s2, .int s1, .ref 205] (hp nS M) Q := by
  exact eq_run 1 (q := (95, [.ref 205, .int x1, .int x2, .int x3], [.int 999, .int s2, .int s1, .ref 205], hp nS M)) (by with_unfolding_all rfl)
set_option maxRecDepth 20000 in
theorem b_176_95 {d nS : Nat} {x1 x2 x3 s1 s2 s3 : Int32} {M : am_M} {Q : Option Value → am_H → Prop} : am_Wp (d + 1) 176 95 [.ref 205, .int x1, .int x2, .int x3] [.int s3, .int s2, .int s1, .ref 205] (hp nS M) Q = am_Wp d 171 0 [.ref 205, .int s1, .int s2, .int s3] [] (hp nS M) (fun v h1 => am_Wp (d + 1) 176 98 [.ref 205, .int x1, .int x2, .int x3] (am_ans v []) h1 Q) := by
  exact eq_call2 (e := (.invokevirtual 144, 3, 0, 171, 275)) (as := [.ref 205, .int s1, .int s2, .int s3]) (r := []) (n := 4) (m := 4) (by with_unfolding_all rfl) rfl (by decide) (by with_unfolding_all rfl) (by decide) (by with_unfolding_all rfl) ⟨fun _ => am_rec_ok (c := 14) (by with_unfolding_all rfl) (by decide +kernel), fun z => by simp at z⟩
set_option maxRecDepth 20000 in
theorem b_176_98 {d nS : Nat} {x1 x2 x3 s0 : Int32} {M : am_M} {Q : Option Value → am_H → Prop} : am_Wp d 176 98 [.ref 205, .int x1, .int x2, .int x3] [.int s0] (hp nS M) Q = if s0 = 0 then am_Wp d 176 105 [.ref 205, .int x1, .int x2, .int x3] [] (hp nS M) Q else am_Wp d 176 101 [.ref 205, .int x1, .int x2, .int x3] [] (hp nS M) Q := by
  exact eq_if_eq (by with_unfolding_all rfl)
set_option maxRecDepth 20000 in
theorem b_176_101 {d nS : Nat} {x1 x2 x3 : Int32} {M : am_M} {Q : Option Value → am_H → Prop} : am_Wp d 176 101 [.ref 205, .int x1, .int x2, .int x3] [] (hp nS M) Q = am_Wp d 176 106 [.ref 205, .int x1, .int x2, .int x3] [.int 1] (hp nS M) Q := by
  exact eq_run 2 (q := (106, [.ref 205, .int x1, .int x2, .int x3], [.int 1], hp nS M)) (by with_unfolding_all rfl)
set_option maxRecDepth 20000 in
theorem b_176_105 {d nS : Nat} {x1 x2 x3 : Int32} {M : am_M} {Q : Option Value → am_H → Prop} : am_Wp d 176 105 [.ref 205, .int x1, .int x2, .int x3] [] (hp nS M) Q = am_Wp d 176 106 [.ref 205, .int x1, .int x2, .int x3] [.int 0] (hp nS M) Q := by
  exact eq_run 1 (q := (106, [.ref 205, .int x1, .int x2, .int x3], [.int 0], hp nS M)) (by with_unfolding_all rfl)
set_option maxRecDepth 20000 in
theorem b_176_106 {d nS : Nat} {x1 x2 x3 s0 : Int32} {M : am_M} {Q : Option Value → am_H → Prop} (h1 : am_rok .boolean s0 = true) : am_Wp d 176 106 [.ref 205, .int x1, .int x2, .int x3] [.int s0] (hp nS M) Q = Q (some (.int s0)) (hp nS M) := by
  exact eq_retI2 (e := (.ireturn, 1, 0, 0, 0)) (t := .boolean) (by with_unfolding_all rfl) rfl (by with_unfolding_all rfl) h1
set_option maxRecDepth 20000 in
theorem b_176_107 {d nS : Nat} {x1 x2 x3 : Int32} {M : am_M} {Q : Option Value → am_H → Prop} : am_Wp d 176 107 [.ref 205, .int x1, .int x2, .int x3] [] (hp nS M) Q = if ¬ x1 = 5 then am_Wp d 176 136 [.ref 205, .int x1, .int x2, .int x3] [] (hp nS M) Q else am_Wp d 176 112 [.ref 205, .int x1, .int x2, .int x3] [] (hp nS M) Q := by
  refine (eq_run 2 (q := (109, [.ref 205, .int x1, .int x2, .int x3], [.int 5, .int x1], hp nS M)) (by with_unfolding_all rfl)).trans ?_
  exact eq_cmp_ne (by with_unfolding_all rfl)
set_option maxRecDepth 20000 in
theorem b_176_112 {d nS : Nat} {x1 x2 x3 : Int32} {M : am_M} {Q : Option Value → am_H → Prop} : am_Wp (d + 1) 176 112 [.ref 205, .int x1, .int x2, .int x3] [] (hp nS M) Q = am_Wp d 179 0 [.ref 205, .int x2] [] (hp nS M) (fun v h1 => am_Wp (d + 1) 176 117 [.ref 205, .int x1, .int x2, .int x3] (am_ans v []) h1 Q) := by
  refine (eq_run 2 (q := (114, [.ref 205, .int x1, .int x2, .int x3], [.int x2, .ref 205], hp nS M)) (by with_unfolding_all rfl)).trans ?_
  exact eq_call2 (e := (.invokevirtual 158, 3, 0, 179, 279)) (as := [.ref 205, .int x2]) (r := []) (n := 2) (m := 2) (by with_unfolding_all rfl) rfl (by decide) (by with_unfolding_all rfl) (by decide) (by with_unfolding_all rfl) ⟨fun _ => am_rec_ok (c := 14) (by with_unfolding_all rfl) (by decide +kernel), fun z => by simp at z⟩
set_option maxRecDepth 20000 in
theorem b_176_117 {d nS : Nat} {x1 x2 x3 s0 : Int32} {M : am_M} {Q : Option Value → am_H → Prop} : am_Wp d 176 117 [.ref 205, .int x1, .int x2, .int x3] [.int s0] (hp nS M) Q = if s0 = 0 then am_Wp d 176 136 [.ref 205, .int x1, .int x2, .int x3] [] (hp nS M) Q else am_Wp d 176 120 [.ref 205, .int x1, .int x2, .int x3] [] (hp nS M) Q := by
  exact eq_if_eq (by with_unfolding_all rfl)
set_option maxRecDepth 20000 in
theorem b_176_120 {d nS : Nat} {x1 x2 x3 : Int32} {M : am_M} {Q : Option Value → am_H → Prop} : am_Wp (d + 1) 176 120 [.ref 205, .int x1, .int x2, .int x3] [] (hp nS M) Q = am_Wp d 171 0 [.ref 205, .int x3, .int 0, .int 9999] [] (hp nS M) (fun v h1 => am_Wp (d + 1) 176 129 [.ref 205, .int x1, .int x2, .int x3] (am_ans v []) h1 Q) := by
  refine (eq_run 4 (q := (126, [.ref 205, .int x1, .int x2, .int x3], [.int 9999, .int 0, .int x3, .ref 205], hp nS M)) (by with_unfolding_all rfl)).trans ?_
  exact eq_call2 (e := (.invokevirtual 144, 3, 0, 171, 275)) (as := [.ref 205, .int x3, .int 0, .int 9999]) (r := []) (n := 4) (m := 4) (by with_unfolding_all rfl) rfl (by decide) (by with_unfolding_all rfl) (by decide) (by with_unfolding_all rfl) ⟨fun _ => am_rec_ok (c := 14) (by with_unfolding_all rfl) (by decide +kernel), fun z => by simp at z⟩
set_option maxRecDepth 20000 in
theorem b_176_129 {d nS : Nat} {x1 x2 x3 s0 : Int32} {M : am_M} {Q : Option Value → am_H → Prop} : am_Wp d 176 129 [.ref 205, .int x1, .int x2, .int x3] [.int s0] (hp nS M) Q = if s0 = 0 then am_Wp d 176 136 [.ref 205, .int x1, .int x2, .int x3] [] (hp nS M) Q else am_Wp d 176 132 [.ref 205, .int x1, .int x2, .int x3] [] (hp nS M) Q := by
  exact eq_if_eq (by with_unfolding_all rfl)
set_option maxRecDepth 20000 in
theorem b_176_132 {d nS : Nat} {x1 x2 x3 : Int32} {M : am_M} {Q : Option Value → am_H → Prop} : am_Wp d 176 132 [.ref 205, .int x1, .int x2, .int x3] [] (hp nS M) Q = am_Wp d 176 137 [.ref 205, .int x1, .int x2, .int x3] [.int 1] (hp nS M) Q := by
  exact eq_run 2 (q := (137, [.ref 205, .int x1, .int x2, .int x3], [.int 1], hp nS M)) (by with_unfolding_all rfl)
set_option maxRecDepth 20000 in
theorem b_176_136 {d nS : Nat} {x1 x2 x3 : Int32} {M : am_M} {Q : Option Value → am_H → Prop} : am_Wp d 176 136 [.ref 205, .int x1, .int x2, .int x3] [] (hp nS M) Q = am_Wp d 176 137 [.ref 205, .int x1, .int x2, .int x3] [.int 0] (hp nS M) Q := by
  exact eq_run 1 (q := (137, [.ref 205, .int x1, .int x2, .int x3], [.int 0], hp nS M)) (by with_unfolding_all rfl)
set_option maxRecDepth 20000 in
theorem b_176_137 {d nS : Nat} {x1 x2 x3 s0 : Int32} {M : am_M} {Q : Option Value → am_H → Prop} (h1 : am_rok .boolean s0 = true) : am_Wp d 176 137 [.ref 205, .int x1, .int x2, .int x3] [.int s0] (hp nS M) Q = Q (some (.int s0)) (hp nS M) := by
  exact eq_retI2 (e := (.ireturn, 1, 0, 0, 0)) (t := .boolean) (by with_unfolding_all rfl) rfl (by with_unfolding_all rfl) h1
-- isLark(I)Z
set_option maxRecDepth 20000 in
theorem b_177_0 {d nS : Nat} {x1 : Int32} {M : am_M} {Q : Option Value → am_H → Prop} : am_Wp d 177 0 [.ref 205, .int x1] [] (hp nS M) Q = if x1 < 0 then am_Wp d 177 16 [.ref 205, .int x1] [] (hp nS M) Q else am_Wp d 177 4 [.ref 205, .int x1] [] (hp nS M) Q := by
  refine (eq_run 1 (q := (1, [.ref 205, .int x1], [.int x1], hp nS M)) (by with_unfolding_all rfl)).trans ?_
  exact eq_if_lt (by with_unfolding_all rfl)
set_option maxRecDepth 20000 in
theorem b_177_4 {d nS : Nat} {x1 : Int32} {M : am_M} {Q : Option Value → am_H → Prop} : am_Wp d 177 4 [.ref 205, .int x1] [] (hp nS M) Q = if (M 205 8) ≤ x1 then am_Wp d 177 16 [.ref 205, .int x1] [] (hp nS M) Q else am_Wp d 177 12 [.ref 205, .int x1] [] (hp nS M) Q := by
  refine (eq_run 3 (q := (9, [.ref 205, .int x1], [.int (M 205 8), .int x1], hp nS M)) (by with_unfolding_all rfl)).trans ?_
  exact eq_cmp_ge (by with_unfolding_all rfl)
set_option maxRecDepth 20000 in
theorem b_177_12 {d nS : Nat} {x1 : Int32} {M : am_M} {Q : Option Value → am_H → Prop} : am_Wp d 177 12 [.ref 205, .int x1] [] (hp nS M) Q = am_Wp d 177 17 [.ref 205, .int x1] [.int 1] (hp nS M) Q := by
  exact eq_run 2 (q := (17, [.ref 205, .int x1], [.int 1], hp nS M)) (by with_unfolding_all rfl)
set_option maxRecDepth 20000 in
theorem b_177_16 {d nS : Nat} {x1 : Int32} {M : am_M} {Q : Option Value → am_H → Prop} : am_Wp d 177 16 [.ref 205, .int x1] [] (hp nS M) Q = am_Wp d 177 17 [.ref 205, .int x1] [.int 0] (hp nS M) Q := by
  exact eq_run 1 (q := (17, [.ref 205, .int x1], [.int 0], hp nS M)) (by with_unfolding_all rfl)
set_option maxRecDepth 20000 in
theorem b_177_17 {d nS : Nat} {x1 s0 : Int32} {M : am_M} {Q : Option Value → am_H → Prop} (h1 : am_rok .boolean s0 = true) : am_Wp d 177 17 [.ref 205, .int x1] [.int s0] (hp nS M) Q = Q (some (.int s0)) (hp nS M) := by
  exact eq_retI2 (e := (.ireturn, 1, 0, 0, 0)) (t := .boolean) (by with_unfolding_all rfl) rfl (by with_unfolding_all rfl) h1
-- isGood(I)Z
set_option maxRecDepth 20000 in
theorem b_178_0 {d nS : Nat} {x1 : Int32} {M : am_M} {Q : Option Value → am_H → Prop} : am_Wp d 178 0 [.ref 205, .int x1] [] (hp nS M) Q = if x1 < 0 then am_Wp d 178 16 [.ref 205, .int x1] [] (hp nS M) Q else am_Wp d 178 4 [.ref 205, .int x1] [] (hp nS M) Q := by
  refine (eq_run 1 (q := (1, [.ref 205, .int x1], [.int x1], hp nS M)) (by with_unfolding_all rfl)).trans ?_
  exact eq_if_lt (by with_unfolding_all rfl)
set_option maxRecDepth 20000 in
theorem b_178_4 {d nS : Nat} {x1 : Int32} {M : am_M} {Q : Option Value → am_H → Prop} : am_Wp d 178 4 [.ref 205, .int x1] [] (hp nS M) Q = if (M 205 9) ≤ x1 then am_Wp d 178 16 [.ref 205, .int x1] [] (hp nS M) Q else am_Wp d 178 12 [.ref 205, .int x1] [] (hp nS M) Q := by
  refine (eq_run 3 (q := (9, [.ref 205, .int x1], [.int (M 205 9), .int x1], hp nS M)) (by with_unfolding_all rfl)).trans ?_
  exact eq_cmp_ge (by with_unfolding_all rfl)
set_option maxRecDepth 20000 in
theorem b_178_12 {d nS : Nat} {x1 : Int32} {M : am_M} {Q : Option Value → am_H → Prop} : am_Wp d 178 12 [.ref 205, .int x1] [] (hp nS M) Q = am_Wp d 178 17 [.ref 205, .int x1] [.int 1] (hp nS M) Q := by
  exact eq_run 2 (q := (17, [.ref 205, .int x1], [.int 1], hp nS M)) (by with_unfolding_all rfl)
set_option maxRecDepth 20000 in
theorem b_178_16 {d nS : Nat} {x1 : Int32} {M : am_M} {Q : Option Value → am_H → Prop} : am_Wp d 178 16 [.ref 205, .int x1] [] (hp nS M) Q = am_Wp d 178 17 [.ref 205, .int x1] [.int 0] (hp nS M) Q := by
  exact eq_run 1 (q := (17, [.ref 205, .int x1], [.int 0], hp nS M)) (by with_unfolding_all rfl)
set_option maxRecDepth 20000 in
theorem b_178_17 {d nS : Nat} {x1 s0 : Int32} {M : am_M} {Q : Option Value → am_H → Prop} (h1 : am_rok .boolean s0 = true) : am_Wp d 178 17 [.ref 205, .int x1] [.int s0] (hp nS M) Q = Q (some (.int s0)) (hp nS M) := by
  exact eq_retI2 (e := (.ireturn, 1, 0, 0, 0)) (t := .boolean) (by with_unfolding_all rfl) rfl (by with_unfolding_all rfl) h1
-- isTrader(I)Z
set_option maxRecDepth 20000 in
theorem b_179_0 {d nS : Nat} {x1 : Int32} {M : am_M} {Q : Option Value → am_H → Prop} : am_Wp d 179 0 [.ref 205, .int x1] [] (hp nS M) Q = if x1 < 0 then am_Wp d 179 16 [.ref 205, .int x1] [] (hp nS M) Q else am_Wp d 179 4 [.ref 205, .int x1] [] (hp nS M) Q := by
  refine (eq_run 1 (q := (1, [.ref 205, .int x1], [.int x1], hp nS M)) (by with_unfolding_all rfl)).trans ?_
  exact eq_if_lt (by with_unfolding_all rfl)
set_option maxRecDepth 20000 in
theorem b_179_4 {d nS : Nat} {x1 : Int32} {M : am_M} {Q : Option Value → am_H → Prop} : am_Wp d 179 4 [.ref 205, .int x1] [] (hp nS M) Q = if (M 205 10) ≤ x1 then am_Wp d 179 16 [.ref 205, .int x1] [] (hp nS M) Q else am_Wp d 179 12 [.ref 205, .int x1] [] (hp nS M) Q := by
  refine (eq_run 3 (q := (9, [.ref 205, .int x1], [.int (M 205 10), .int x1], hp nS M)) (by with_unfolding_all rfl)).trans ?_
  exact eq_cmp_ge (by with_unfolding_all rfl)
set_option maxRecDepth 20000 in
theorem b_179_12 {d nS : Nat} {x1 : Int32} {M : am_M} {Q : Option Value → am_H → Prop} : am_Wp d 179 12 [.ref 205, .int x1] [] (hp nS M) Q = am_Wp d 179 17 [.ref 205, .int x1] [.int 1] (hp nS M) Q := by
  exact eq_run 2 (q := (17, [.ref 205, .int x1], [.int 1], hp nS M)) (by with_unfolding_all rfl)
set_option maxRecDepth 20000 in
theorem b_179_16 {d nS : Nat} {x1 : Int32} {M : am_M} {Q : Option Value → am_H → Prop} : am_Wp d 179 16 [.ref 205, .int x1] [] (hp nS M) Q = am_Wp d 179 17 [.ref 205, .int x1] [.int 0] (hp nS M) Q := by
  exact eq_run 1 (q := (17, [.ref 205, .int x1], [.int 0], hp nS M)) (by with_unfolding_all rfl)
set_option maxRecDepth 20000 in
theorem b_179_17 {d nS : Nat} {x1 s0 : Int32} {M : am_M} {Q : Option Value → am_H → Prop} (h1 : am_rok .boolean s0 = true) : am_Wp d 179 17 [.ref 205, .int x1] [.int s0] (hp nS M) Q = Q (some (.int s0)) (hp nS M) := by
  exact eq_retI2 (e := (.ireturn, 1, 0, 0, 0)) (t := .boolean) (by with_unfolding_all rfl) rfl (by with_unfolding_all rfl) h1
-- feed(IIIII)I
set_option maxRecDepth 20000 in
theorem b_180_0 {d nS : Nat} {x1 x2 x3 x4 x5 : Int32} {M : am_M} {Q : Option Value → am_H → Prop} : am_Wp d 180 0 [.ref 205, .int x1, .int x2, .int x3, .int x4, .int x5] [] (hp nS M) Q = if ((am_up M 205 0 0) 205 15) ≤ 380 then am_Wp d 180 17 [.ref 205, .int x1, .int x2, .int x3, .int x4, .int x5] [] (hp nS (am_up M 205 0 0)) Q else am_Wp d 180 15 [.ref 205, .int x1, .int x2, .int x3, .int x4, .int x5] [] (hp nS (am_up M 205 0 0)) Q := by
  refine (eq_run 6 (q := (12, [.ref 205, .int x1, .int x2, .int x3, .int x4, .int x5], [.int 380, .int ((am_up M 205 0 0) 205 15)], hp nS (am_up M 205 0 0))) (by with_unfolding_all rfl)).trans ?_
  exact eq_cmp_le (by with_unfolding_all rfl)
set_option maxRecDepth 20000 in
theorem b_180_15 {d nS : Nat} {x1 x2 x3 x4 x5 : Int32} {M : am_M} {Q : Option Value → am_H → Prop} : am_Wp d 180 15 [.ref 205, .int x1, .int x2, .int x3, .int x4, .int x5] [] (hp nS M) Q = Q (some (.int (-1))) (hp nS M) := by
  refine (eq_run 1 (q := (16, [.ref 205, .int x1, .int x2, .int x3, .int x4, .int x5], [.int (-1)], hp nS M)) (by with_unfolding_all rfl)).trans ?_
  exact eq_retI2 (e := (.ireturn, 1, 0, 0, 0)) (t := .int) (by with_unfolding_all rfl) rfl (by with_unfolding_all rfl) rfl
set_option maxRecDepth 20000 in
theorem b_180_17 {d nS : Nat} {x1 x2 x3 x4 x5 : Int32} {M : am_M} {Q : Option Value → am_H → Prop} : am_Wp (d + 1) 180 17 [.ref 205, .int x1, .int x2, .int x3, .int x4, .int x5] [] (hp nS M) Q = am_Wp d 181 0 [.ref 205, .int x1, .retAddr 0] [] (hp nS M) (fun v h1 => am_Wp (d + 1) 180 22 [.ref 205, .int x1, .int x2, .int x3, .int x4, .int x5] (am_ans v []) h1 Q) := by
  refine (eq_run 2 (q := (19, [.ref 205, .int x1, .int x2, .int x3, .int x4, .int x5], [.int x1, .ref 205], hp nS M)) (by with_unfolding_all rfl)).trans ?_
  exact eq_call2 (e := (.invokevirtual 167, 3, 0, 181, 281)) (as := [.ref 205, .int x1]) (r := []) (n := 2) (m := 3) (by with_unfolding_all rfl) rfl (by decide) (by with_unfolding_all rfl) (by decide) (by with_unfolding_all rfl) ⟨fun _ => am_rec_ok (c := 14) (by with_unfolding_all rfl) (by decide +kernel), fun z => by simp at z⟩
set_option maxRecDepth 20000 in
theorem b_180_22 {d nS : Nat} {x1 x2 x3 x4 x5 : Int32} {M : am_M} {Q : Option Value → am_H → Prop} : am_Wp (d + 1) 180 22 [.ref 205, .int x1, .int x2, .int x3, .int x4, .int x5] [] (hp nS M) Q = am_Wp d 181 0 [.ref 205, .int x2, .retAddr 0] [] (hp nS M) (fun v h1 => am_Wp (d + 1) 180 27 [.ref 205, .int x1, .int x2, .int x3, .int x4, .int x5] (am_ans v []) h1 Q) := by
  refine (eq_run 2 (q := (24, [.ref 205, .int x1, .int x2, .int x3, .int x4, .int x5], [.int x2, .ref 205], hp nS M)) (by with_unfolding_all rfl)).trans ?_
  exact eq_call2 (e := (.invokevirtual 167, 3, 0, 181, 281)) (as := [.ref 205, .int x2]) (r := []) (n := 2) (m := 3) (by with_unfolding_all rfl) rfl (by decide) (by with_unfolding_all rfl) (by decide) (by with_unfolding_all rfl) ⟨fun _ => am_rec_ok (c := 14) (by with_unfolding_all rfl) (by decide +kernel), fun z => by simp at z⟩
set_option maxRecDepth 20000 in
theorem b_180_27 {d nS : Nat} {x1 x2 x3 x4 x5 : Int32} {M : am_M} {Q : Option Value → am_H → Prop} : am_Wp (d + 1) 180 27 [.ref 205, .int x1, .int x2, .int x3, .int x4, .int x5] [] (hp nS M) Q = am_Wp d 181 0 [.ref 205, .int x3, .retAddr 0] [] (hp nS M) (fun v h1 => am_Wp (d + 1) 180 32 [.ref 205, .int x1, .int x2, .int x3, .int x4, .int x5] (am_ans v []) h1 Q) := by
  refine (eq_run 2 (q := (29, [.ref 205, .int x1, .int x2, .int x3, .int x4, .int x5], [.int x3, .ref 205], hp nS M)) (by with_unfolding_all rfl)).trans ?_
  exact eq_call2 (e := (.invokevirtual 167, 3, 0, 181, 281)) (as := [.ref 205, .int x3]) (r := []) (n := 2) (m := 3) (by with_unfolding_all rfl) rfl (by decide) (by with_unfolding_all rfl) (by decide) (by with_unfolding_all rfl) ⟨fun _ => am_rec_ok (c := 14) (by with_unfolding_all rfl) (by decide +kernel), fun z => by simp at z⟩
set_option maxRecDepth 20000 in
theorem b_180_32 {d nS : Nat} {x1 x2 x3 x4 x5 : Int32} {M : am_M} {Q : Option Value → am_H → Prop} : am_Wp (d + 1) 180 32 [.ref 205, .int x1, .int x2, .int x3, .int x4, .int x5] [] (hp nS M) Q = am_Wp d 181 0 [.ref 205, .int x4, .retAddr 0] [] (hp nS M) (fun v h1 => am_Wp (d + 1) 180 38 [.ref 205, .int x1, .int x2, .int x3, .int x4, .int x5] (am_ans v []) h1 Q) := by
  refine (eq_run 2 (q := (35, [.ref 205, .int x1, .int x2, .int x3, .int x4, .int x5], [.int x4, .ref 205], hp nS M)) (by with_unfolding_all rfl)).trans ?_
  exact eq_call2 (e := (.invokevirtual 167, 3, 0, 181, 281)) (as := [.ref 205, .int x4]) (r := []) (n := 2) (m := 3) (by with_unfolding_all rfl) rfl (by decide) (by with_unfolding_all rfl) (by decide) (by with_unfolding_all rfl) ⟨fun _ => am_rec_ok (c := 14) (by with_unfolding_all rfl) (by decide +kernel), fun z => by simp at z⟩
set_option maxRecDepth 20000 in
theorem b_180_38 {d nS : Nat} {x1 x2 x3 x4 x5 : Int32} {M : am_M} {Q : Option Value → am_H → Prop} : am_Wp (d + 1) 180 38 [.ref 205, .int x1, .int x2, .int x3, .int x4, .int x5] [] (hp nS M) Q = am_Wp d 181 0 [.ref 205, .int x5, .retAddr 0] [] (hp nS M) (fun v h1 => am_Wp (d + 1) 180 44 [.ref 205, .int x1, .int x2, .int x3, .int x4, .int x5] (am_ans v []) h1 Q) := by
  refine (eq_run 2 (q := (41, [.ref 205, .int x1, .int x2, .int x3, .int x4, .int x5], [.int x5, .ref 205], hp nS M)) (by with_unfolding_all rfl)).trans ?_
  exact eq_call2 (e := (.invokevirtual 167, 3, 0, 181, 281)) (as := [.ref 205, .int x5]) (r := []) (n := 2) (m := 3) (by with_unfolding_all rfl) rfl (by decide) (by with_unfolding_all rfl) (by decide) (by with_unfolding_all rfl) ⟨fun _ => am_rec_ok (c := 14) (by with_unfolding_all rfl) (by decide +kernel), fun z => by simp at z⟩
set_option maxRecDepth 20000 in
theorem b_180_44 {d nS : Nat} {x1 x2 x3 x4 x5 : Int32} {M : am_M} {Q : Option Value → am_H → Prop} : am_Wp d 180 44 [.ref 205, .int x1, .int x2, .int x3, .int x4, .int x5] [] (hp nS M) Q = Q (some (.int (M 205 15))) (hp nS M) := by
  refine (eq_run 2 (q := (48, [.ref 205, .int x1, .int x2, .int x3, .int x4, .int x5], [.int (M 205 15)], hp nS M)) (by with_unfolding_all rfl)).trans ?_
  exact eq_retI2 (e := (.ireturn, 1, 0, 0, 0)) (t := .int) (by with_unfolding_all rfl) rfl (by with_unfolding_all rfl) rfl
-- types(I)V
set_option maxRecDepth 20000 in
theorem b_181_0 {d nS : Nat} {x1 : Int32} {M : am_M} {Q : Option Value → am_H → Prop} : am_Wp d 181 0 [.ref 205, .int x1, .retAddr 0] [] (hp nS M) Q = am_Wp d 181 3 [.ref 205, .int x1, .int 24] [] (hp nS M) Q := by
  exact eq_run 2 (q := (3, [.ref 205, .int x1, .int 24], [], hp nS M)) (by with_unfolding_all rfl)
set_option maxRecDepth 20000 in
theorem b_181_3 {d nS : Nat} {x1 x2 : Int32} {M : am_M} {Q : Option Value → am_H → Prop} : am_Wp d 181 3 [.ref 205, .int x1, .int x2] [] (hp nS M) Q = if x2 < 0 then am_Wp d 181 39 [.ref 205, .int x1, .int x2] [] (hp nS M) Q else am_Wp d 181 7 [.ref 205, .int x1, .int x2] [] (hp nS M) Q := by
  refine (eq_run 1 (q := (4, [.ref 205, .int x1, .int x2], [.int x2], hp nS M)) (by with_unfolding_all rfl)).trans ?_
  exact eq_if_lt (by with_unfolding_all rfl)
set_option maxRecDepth 20000 in
theorem b_181_7 {d nS : Nat} {x1 x2 : Int32} {M : am_M} {Q : Option Value → am_H → Prop} (h1 : vp_in (M 205 15) 400) : am_Wp d 181 7 [.ref 205, .int x1, .int x2] [] (hp nS M) Q = am_Wp d 181 3 [.ref 205, .int x1, .int (x2 + (-8))] [] (hp nS (am_up (am_up M 212 (M 205 15).toNatClampNeg ((x1 >>> (x2 &&& 31)) &&& 255)) 205 15 (((am_up M 212 (M 205 15).toNatClampNeg ((x1 >>> (x2 &&& 31)) &&& 255)) 205 15) + 1))) Q := by
  refine (eq_run 9 (q := (22, [.ref 205, .int x1, .int x2], [.int ((x1 >>> (x2 &&& 31)) &&& 255), .int (M 205 15), .ref 212], hp nS M)) (by with_unfolding_all rfl)).trans ?_
  refine (eq_ast (e := (.iastore, 1, 0, 0, 0)) (by with_unfolding_all rfl) rfl (n := 400) (by with_unfolding_all rfl) (by decide) h1).trans ?_
  exact eq_run 8 (q := (3, [.ref 205, .int x1, .int (x2 + (-8))], [], hp nS (am_up (am_up M 212 (M 205 15).toNatClampNeg ((x1 >>> (x2 &&& 31)) &&& 255)) 205 15 (((am_up M 212 (M 205 15).toNatClampNeg ((x1 >>> (x2 &&& 31)) &&& 255)) 205 15) + 1)))) (by with_unfolding_all rfl)
set_option maxRecDepth 20000 in
theorem b_181_39 {d nS : Nat} {x1 x2 : Int32} {M : am_M} {Q : Option Value → am_H → Prop} : am_Wp d 181 39 [.ref 205, .int x1, .int x2] [] (hp nS M) Q = Q none (hp nS M) := by
  exact eq_retV2 (e := (.return_, 1, 0, 0, 0)) (by with_unfolding_all rfl) rfl (by with_unfolding_all rfl)
-- end(I)Z
set_option maxRecDepth 20000 in
theorem b_182_0 {d nS : Nat} {x1 : Int32} {M : am_M} {Q : Option Value → am_H → Prop} : am_Wp (d + 1) 182 0 [.ref 205, .int x1] [] (hp nS M) Q = am_Wp d 171 0 [.ref 205, .int x1, .int 0, .int ((am_up M 205 0 0) 205 15)] [] (hp nS (am_up M 205 0 0)) (fun v h1 => am_Wp (d + 1) 182 15 [.ref 205, .int x1] (am_ans v []) h1 Q) := by
  refine (eq_run 8 (q := (12, [.ref 205, .int x1], [.int ((am_up M 205 0 0) 205 15), .int 0, .int x1, .ref 205], hp nS (am_up M 205 0 0))) (by with_unfolding_all rfl)).trans ?_
  exact eq_call2 (e := (.invokevirtual 144, 3, 0, 171, 275)) (as := [.ref 205, .int x1, .int 0, .int ((am_up M 205 0 0) 205 15)]) (r := []) (n := 4) (m := 4) (by with_unfolding_all rfl) rfl (by decide) (by with_unfolding_all rfl) (by decide) (by with_unfolding_all rfl) ⟨fun _ => am_rec_ok (c := 14) (by with_unfolding_all rfl) (by decide +kernel), fun z => by simp at z⟩
set_option maxRecDepth 20000 in
theorem b_182_15 {d nS : Nat} {x1 s0 : Int32} {M : am_M} {Q : Option Value → am_H → Prop} : am_Wp d 182 15 [.ref 205, .int x1] [.int s0] (hp nS M) Q = if ¬ s0 = 0 then am_Wp d 182 20 [.ref 205, .int x1] [] (hp nS M) Q else am_Wp d 182 18 [.ref 205, .int x1] [] (hp nS M) Q := by
  exact eq_if_ne (by with_unfolding_all rfl)
set_option maxRecDepth 20000 in
theorem b_182_18 {d nS : Nat} {x1 : Int32} {M : am_M} {Q : Option Value → am_H → Prop} : am_Wp d 182 18 [.ref 205, .int x1] [] (hp nS M) Q = Q (some (.int 0)) (hp nS M) := by
  refine (eq_run 1 (q := (19, [.ref 205, .int x1], [.int 0], hp nS M)) (by with_unfolding_all rfl)).trans ?_
  exact eq_retI2 (e := (.ireturn, 1, 0, 0, 0)) (t := .boolean) (by with_unfolding_all rfl) rfl (by with_unfolding_all rfl) rfl
set_option maxRecDepth 20000 in
theorem b_182_20 {d nS : Nat} {x1 : Int32} {M : am_M} {Q : Option Value → am_H → Prop} : am_Wp d 182 20 [.ref 205, .int x1] [] (hp nS M) Q = Q (some (.int 1)) (hp nS (am_up M 205 15 x1)) := by
  refine (eq_run 4 (q := (26, [.ref 205, .int x1], [.int 1], hp nS (am_up M 205 15 x1))) (by with_unfolding_all rfl)).trans ?_
  exact eq_retI2 (e := (.ireturn, 1, 0, 0, 0)) (t := .boolean) (by with_unfolding_all rfl) rfl (by with_unfolding_all rfl) rfl
-- text(I)I
set_option maxRecDepth 20000 in
theorem b_183_0 {d nS : Nat} {x1 : Int32} {M : am_M} {Q : Option Value → am_H → Prop} : am_Wp (d + 1) 183 0 [.ref 205, .int x1, .retAddr 0] [] (hp nS M) Q = am_Wp d 171 0 [.ref 205, .int x1, .int 0, .int 3] [] (hp nS (am_up (am_up (am_up (am_up (am_up (am_up M 205 0 0) 205 35 0) 205 36 (-1)) 205 16 0) 205 29 0) 205 30 0)) (fun v h1 => am_Wp (d + 1) 183 39 [.ref 205, .int x1, .int (-1)] (am_ans v []) h1 Q) := by
  refine (eq_run 24 (q := (36, [.ref 205, .int x1, .int (-1)], [.int 3, .int 0, .int x1, .ref 205], hp nS (am_up (am_up (am_up (am_up (am_up (am_up M 205 0 0) 205 35 0) 205 36 (-1)) 205 16 0) 205 29 0) 205 30 0))) (by with_unfolding_all rfl)).trans ?_
  exact eq_call2 (e := (.invokevirtual 144, 3, 0, 171, 275)) (as := [.ref 205, .int x1, .int 0, .int 3]) (r := []) (n := 4) (m := 4) (by with_unfolding_all rfl) rfl (by decide) (by with_unfolding_all rfl) (by decide) (by with_unfolding_all rfl) ⟨fun _ => am_rec_ok (c := 14) (by with_unfolding_all rfl) (by decide +kernel), fun z => by simp at z⟩
set_option maxRecDepth 20000 in
theorem b_183_39 {d nS : Nat} {x1 x2 s0 : Int32} {M : am_M} {Q : Option Value → am_H → Prop} : am_Wp d 183 39 [.ref 205, .int x1, .int x2] [.int s0] (hp nS M) Q = if s0 = 0 then am_Wp d 183 69 [.ref 205, .int x1, .int x2] [] (hp nS M) Q else am_Wp d 183 42 [.ref 205, .int x1, .int x2] [] (hp nS M) Q := by
  exact eq_if_eq (by with_unfolding_all rfl)
set_option maxRecDepth 20000 in
theorem b_183_42 {d nS : Nat} {x1 x2 : Int32} {M : am_M} {Q : Option Value → am_H → Prop} : am_Wp (d + 1) 183 42 [.ref 205, .int x1, .int x2] [] (hp nS M) Q = am_Wp d 184 0 [.ref 205, .int x1] [] (hp nS M) (fun v h1 => am_Wp (d + 1) 183 47 [.ref 205, .int x1, .int x2] (am_ans v []) h1 Q) := by
  refine (eq_run 2 (q := (44, [.ref 205, .int x1, .int x2], [.int x1, .ref 205], hp nS M)) (by with_unfolding_all rfl)).trans ?_
  exact eq_call2 (e := (.invokevirtual 308, 3, 0, 184, 312)) (as := [.ref 205, .int x1]) (r := []) (n := 2) (m := 2) (by with_unfolding_all rfl) rfl (by decide) (by with_unfolding_all rfl) (by decide) (by with_unfolding_all rfl) ⟨fun _ => am_rec_ok (c := 14) (by with_unfolding_all rfl) (by decide +kernel), fun z => by simp at z⟩
set_option maxRecDepth 20000 in
theorem b_183_47 {d nS : Nat} {x1 x2 s0 : Int32} {M : am_M} {Q : Option Value → am_H → Prop} : am_Wp d 183 47 [.ref 205, .int x1, .int x2] [.int s0] (hp nS M) Q = if ¬ s0 = (-1) then am_Wp d 183 69 [.ref 205, .int x1, .int s0] [] (hp nS M) Q else am_Wp d 183 53 [.ref 205, .int x1, .int s0] [] (hp nS M) Q := by
  refine (eq_run 3 (q := (50, [.ref 205, .int x1, .int s0], [.int (-1), .int s0], hp nS M)) (by with_unfolding_all rfl)).trans ?_
  exact eq_cmp_ne (by with_unfolding_all rfl)
set_option maxRecDepth 20000 in
theorem b_183_53 {d nS : Nat} {x1 x2 : Int32} {M : am_M} {Q : Option Value → am_H → Prop} : am_Wp d 183 53 [.ref 205, .int x1, .int x2] [] (hp nS M) Q = am_Wp d 183 69 [.ref 205, .int x1, .int x2] [] (hp nS (am_up (am_up M 205 35 (M 205 33)) 205 36 ((am_up M 205 35 (M 205 33)) 205 34))) Q := by
  exact eq_run 8 (q := (69, [.ref 205, .int x1, .int x2], [], hp nS (am_up (am_up M 205 35 (M 205 33)) 205 36 ((am_up M 205 35 (M 205 33)) 205 34)))) (by with_unfolding_all rfl)
set_option maxRecDepth 20000 in
theorem b_183_69 {d nS : Nat} {x1 x2 : Int32} {M : am_M} {Q : Option Value → am_H → Prop} : am_Wp d 183 69 [.ref 205, .int x1, .int x2] [] (hp nS M) Q = if ¬ x2 = (-1) then am_Wp d 183 81 [.ref 205, .int x1, .int x2] [] (hp nS (am_up M 205 15 0)) Q else am_Wp d 183 79 [.ref 205, .int x1, .int x2] [] (hp nS (am_up M 205 15 0)) Q := by
  refine (eq_run 5 (q := (76, [.ref 205, .int x1, .int x2], [.int (-1), .int x2], hp nS (am_up M 205 15 0))) (by with_unfolding_all rfl)).trans ?_
  exact eq_cmp_ne (by with_unfolding_all rfl)
set_option maxRecDepth 20000 in
theorem b_183_79 {d nS : Nat} {x1 x2 : Int32} {M : am_M} {Q : Option Value → am_H → Prop} : am_Wp d 183 79 [.ref 205, .int x1, .int x2] [] (hp nS M) Q = Q (some (.int (-1))) (hp nS M) := by
  refine (eq_run 1 (q := (80, [.ref 205, .int x1, .int x2], [.int (-1)], hp nS M)) (by with_unfolding_all rfl)).trans ?_
  exact eq_retI2 (e := (.ireturn, 1, 0, 0, 0)) (t := .int) (by with_unfolding_all rfl) rfl (by with_unfolding_all rfl) rfl
set_option maxRecDepth 20000 in
theorem b_183_81 {d nS : Nat} {x1 x2 : Int32} {M : am_M} {Q : Option Value → am_H → Prop} : am_Wp d 183 81 [.ref 205, .int x1, .int x2] [] (hp nS M) Q = if ¬ x1 = 0 then am_Wp d 183 93 [.ref 205, .int x1, .int x2] [] (hp nS M) Q else am_Wp d 183 85 [.ref 205, .int x1, .int x2] [] (hp nS M) Q := by
  refine (eq_run 1 (q := (82, [.ref 205, .int x1, .int x2], [.int x1], hp nS M)) (by with_unfolding_all rfl)).trans ?_
  exact eq_if_ne (by with_unfolding_all rfl)
set_option maxRecDepth 20000 in
theorem b_183_85 {d nS : Nat} {x1 x2 : Int32} {M : am_M} {Q : Option Value → am_H → Prop} : am_Wp (d + 1) 183 85 [.ref 205, .int x1, .int x2] [] (hp nS M) Q = am_Wp d 215 0 [.ref 205, .int x2, .retAddr 0] [] (hp nS M) (fun v h1 => am_Wp (d + 1) 183 90 [.ref 205, .int x1, .int x2] (am_ans v []) h1 Q) := by
  refine (eq_run 2 (q := (87, [.ref 205, .int x1, .int x2], [.int x2, .ref 205], hp nS M)) (by with_unfolding_all rfl)).trans ?_
  exact eq_call2 (e := (.invokevirtual 311, 3, 0, 215, 313)) (as := [.ref 205, .int x2]) (r := []) (n := 2) (m := 3) (by with_unfolding_all rfl) rfl (by decide) (by with_unfolding_all rfl) (by decide) (by with_unfolding_all rfl) ⟨fun _ => am_rec_ok (c := 14) (by with_unfolding_all rfl) (by decide +kernel), fun z => by simp at z⟩
set_option maxRecDepth 20000 in
theorem b_183_90 {d nS : Nat} {x1 x2 : Int32} {M : am_M} {Q : Option Value → am_H → Prop} : am_Wp d 183 90 [.ref 205, .int x1, .int x2] [] (hp nS M) Q = am_Wp d 183 99 [.ref 205, .int x1, .int x2] [] (hp nS M) Q := by
  exact eq_run 1 (q := (99, [.ref 205, .int x1, .int x2], [], hp nS M)) (by with_unfolding_all rfl)
set_option maxRecDepth 20000 in
theorem b_183_93 {d nS : Nat} {x1 x2 : Int32} {M : am_M} {Q : Option Value → am_H → Prop} : am_Wp (d + 1) 183 93 [.ref 205, .int x1, .int x2] [] (hp nS M) Q = am_Wp d 216 0 [.ref 205, .int x1, .int x2, .retAddr 0] [] (hp nS M) (fun v h1 => am_Wp (d + 1) 183 99 [.ref 205, .int x1, .int x2] (am_ans v []) h1 Q) := by
  refine (eq_run 3 (q := (96, [.ref 205, .int x1, .int x2], [.int x2, .int x1, .ref 205], hp nS M)) (by with_unfolding_all rfl)).trans ?_
  exact eq_call2 (e := (.invokevirtual 314, 3, 0, 216, 314)) (as := [.ref 205, .int x1, .int x2]) (r := []) (n := 3) (m := 4) (by with_unfolding_all rfl) rfl (by decide) (by with_unfolding_all rfl) (by decide) (by with_unfolding_all rfl) ⟨fun _ => am_rec_ok (c := 14) (by with_unfolding_all rfl) (by decide +kernel), fun z => by simp at z⟩
set_option maxRecDepth 20000 in
theorem b_183_99 {d nS : Nat} {x1 x2 : Int32} {M : am_M} {Q : Option Value → am_H → Prop} : am_Wp d 183 99 [.ref 205, .int x1, .int x2] [] (hp nS M) Q = Q (some (.int x2)) (hp nS M) := by
  refine (eq_run 1 (q := (100, [.ref 205, .int x1, .int x2], [.int x2], hp nS M)) (by with_unfolding_all rfl)).trans ?_
  exact eq_retI2 (e := (.ireturn, 1, 0, 0, 0)) (t := .int) (by with_unfolding_all rfl) rfl (by with_unfolding_all rfl) rfl
-- readsText(I)I
set_option maxRecDepth 20000 in
theorem b_184_0 {d nS : Nat} {x1 : Int32} {M : am_M} {Q : Option Value → am_H → Prop} : am_Wp (d + 1) 184 0 [.ref 205, .int x1] [] (hp nS M) Q = am_Wp d 185 0 [.ref 205, .retAddr 0] [] (hp nS (am_up M 205 28 0)) (fun v h1 => am_Wp (d + 1) 184 9 [.ref 205, .int x1] (am_ans v []) h1 Q) := by
  refine (eq_run 4 (q := (6, [.ref 205, .int x1], [.ref 205], hp nS (am_up M 205 28 0))) (by with_unfolding_all rfl)).trans ?_
  exact eq_call2 (e := (.invokevirtual 218, 3, 0, 185, 290)) (as := [.ref 205]) (r := []) (n := 1) (m := 2) (by with_unfolding_all rfl) rfl (by decide) (by with_unfolding_all rfl) (by decide) (by with_unfolding_all rfl) ⟨fun _ => am_rec_ok (c := 14) (by with_unfolding_all rfl) (by decide +kernel), fun z => by simp at z⟩
set_option maxRecDepth 20000 in
theorem b_184_9 {d nS : Nat} {x1 : Int32} {M : am_M} {Q : Option Value → am_H → Prop} : am_Wp d 184 9 [.ref 205, .int x1] [] (hp nS M) Q = if ¬ x1 = 1 then am_Wp d 184 19 [.ref 205, .int x1] [] (hp nS M) Q else am_Wp d 184 14 [.ref 205, .int x1] [] (hp nS M) Q := by
  refine (eq_run 2 (q := (11, [.ref 205, .int x1], [.int 1, .int x1], hp nS M)) (by with_unfolding_all rfl)).trans ?_
  exact eq_cmp_ne (by with_unfolding_all rfl)
set_option maxRecDepth 20000 in
theorem b_184_14 {d nS : Nat} {x1 : Int32} {M : am_M} {Q : Option Value → am_H → Prop} : am_Wp (d + 1) 184 14 [.ref 205, .int x1] [] (hp nS M) Q = am_Wp d 191 0 [.ref 205, .retAddr 0] [] (hp nS M) (fun v h1 => am_Wp (d + 1) 184 18 [.ref 205, .int x1] (am_ans v []) h1 Q) := by
  refine (eq_run 1 (q := (15, [.ref 205, .int x1], [.ref 205], hp nS M)) (by with_unfolding_all rfl)).trans ?_
  exact eq_call2 (e := (.invokevirtual 284, 3, 0, 191, 308)) (as := [.ref 205]) (r := []) (n := 1) (m := 2) (by with_unfolding_all rfl) rfl (by decide) (by with_unfolding_all rfl) (by decide) (by with_unfolding_all rfl) ⟨fun _ => am_rec_ok (c := 14) (by with_unfolding_all rfl) (by decide +kernel), fun z => by simp at z⟩
set_option maxRecDepth 20000 in
theorem b_184_18 {d nS : Nat} {x1 s0 : Int32} {M : am_M} {Q : Option Value → am_H → Prop} : am_Wp d 184 18 [.ref 205, .int x1] [.int s0] (hp nS M) Q = Q (some (.int s0)) (hp nS M) := by
  exact eq_retI2 (e := (.ireturn, 1, 0, 0, 0)) (t := .int) (by with_unfolding_all rfl) rfl (by with_unfolding_all rfl) rfl
set_option maxRecDepth 20000 in
theorem b_184_19 {d nS : Nat} {x1 : Int32} {M : am_M} {Q : Option Value → am_H → Prop} : am_Wp d 184 19 [.ref 205, .int x1] [] (hp nS M) Q = if ¬ x1 = 2 then am_Wp d 184 29 [.ref 205, .int x1] [] (hp nS M) Q else am_Wp d 184 24 [.ref 205, .int x1] [] (hp nS M) Q := by
  refine (eq_run 2 (q := (21, [.ref 205, .int x1], [.int 2, .int x1], hp nS M)) (by with_unfolding_all rfl)).trans ?_
  exact eq_cmp_ne (by with_unfolding_all rfl)
set_option maxRecDepth 20000 in
theorem b_184_24 {d nS : Nat} {x1 : Int32} {M : am_M} {Q : Option Value → am_H → Prop} : am_Wp (d + 1) 184 24 [.ref 205, .int x1] [] (hp nS M) Q = am_Wp d 200 0 [.ref 205, .retAddr 0] [] (hp nS M) (fun v h1 => am_Wp (d + 1) 184 28 [.ref 205, .int x1] (am_ans v []) h1 Q) := by
  refine (eq_run 1 (q := (25, [.ref 205, .int x1], [.ref 205], hp nS M)) (by with_unfolding_all rfl)).trans ?_
  exact eq_call2 (e := (.invokevirtual 287, 3, 0, 200, 309)) (as := [.ref 205]) (r := []) (n := 1) (m := 2) (by with_unfolding_all rfl) rfl (by decide) (by with_unfolding_all rfl) (by decide) (by with_unfolding_all rfl) ⟨fun _ => am_rec_ok (c := 14) (by with_unfolding_all rfl) (by decide +kernel), fun z => by simp at z⟩
set_option maxRecDepth 20000 in
theorem b_184_28 {d nS : Nat} {x1 s0 : Int32} {M : am_M} {Q : Option Value → am_H → Prop} : am_Wp d 184 28 [.ref 205, .int x1] [.int s0] (hp nS M) Q = Q (some (.int s0)) (hp nS M) := by
  exact eq_retI2 (e := (.ireturn, 1, 0, 0, 0)) (t := .int) (by with_unfolding_all rfl) rfl (by with_unfolding_all rfl) rfl
set_option maxRecDepth 20000 in
theorem b_184_29 {d nS : Nat} {x1 : Int32} {M : am_M} {Q : Option Value → am_H → Prop} : am_Wp d 184 29 [.ref 205, .int x1] [] (hp nS M) Q = if ¬ x1 = 3 then am_Wp d 184 41 [.ref 205, .int x1] [] (hp nS M) Q else am_Wp d 184 34 [.ref 205, .int x1] [] (hp nS M) Q := by
  refine (eq_run 2 (q := (31, [.ref 205, .int x1], [.int 3, .int x1], hp nS M)) (by with_unfolding_all rfl)).trans ?_
  exact eq_cmp_ne (by with_unfolding_all rfl)
set_option maxRecDepth 20000 in
theorem b_184_34 {d nS : Nat} {x1 : Int32} {M : am_M} {Q : Option Value → am_H → Prop} : am_Wp (d + 1) 184 34 [.ref 205, .int x1] [] (hp nS M) Q = am_Wp d 202 0 [.ref 205, .retAddr 0] [] (hp nS M) (fun v h1 => am_Wp (d + 1) 184 38 [.ref 205, .int x1] (am_ans v []) h1 Q) := by
  refine (eq_run 1 (q := (35, [.ref 205, .int x1], [.ref 205], hp nS M)) (by with_unfolding_all rfl)).trans ?_
  exact eq_call2 (e := (.invokevirtual 290, 3, 0, 202, 310)) (as := [.ref 205]) (r := []) (n := 1) (m := 2) (by with_unfolding_all rfl) rfl (by decide) (by with_unfolding_all rfl) (by decide) (by with_unfolding_all rfl) ⟨fun _ => am_rec_ok (c := 14) (by with_unfolding_all rfl) (by decide +kernel), fun z => by simp at z⟩
set_option maxRecDepth 20000 in
theorem b_184_38 {d nS : Nat} {x1 s0 : Int32} {M : am_M} {Q : Option Value → am_H → Prop} : am_Wp d 184 38 [.ref 205, .int x1] [.int s0] (hp nS M) Q = am_Wp d 184 45 [.ref 205, .int x1] [.int s0] (hp nS M) Q := by
  exact eq_run 1 (q := (45, [.ref 205, .int x1], [.int s0], hp nS M)) (by with_unfolding_all rfl)
set_option maxRecDepth 20000 in
theorem b_184_41 {d nS : Nat} {x1 : Int32} {M : am_M} {Q : Option Value → am_H → Prop} : am_Wp (d + 1) 184 41 [.ref 205, .int x1] [] (hp nS M) Q = am_Wp d 204 0 [.ref 205, .retAddr 0, .retAddr 0] [] (hp nS M) (fun v h1 => am_Wp (d + 1) 184 45 [.ref 205, .int x1] (am_ans v []) h1 Q) := by
  refine (eq_run 1 (q := (42, [.ref 205, .int x1], [.ref 205], hp nS M)) (by with_unfolding_all rfl)).trans ?_
  exact eq_call2 (e := (.invokevirtual 293, 3, 0, 204, 311)) (as := [.ref 205]) (r := []) (n := 1) (m := 3) (by with_unfolding_all rfl) rfl (by decide) (by with_unfolding_all rfl) (by decide) (by with_unfolding_all rfl) ⟨fun _ => am_rec_ok (c := 14) (by with_unfolding_all rfl) (by decide +kernel), fun z => by simp at z⟩
set_option maxRecDepth 20000 in
theorem b_184_45 {d nS : Nat} {x1 s0 : Int32} {M : am_M} {Q : Option Value → am_H → Prop} : am_Wp d 184 45 [.ref 205, .int x1] [.int s0] (hp nS M) Q = Q (some (.int s0)) (hp nS M) := by
  exact eq_retI2 (e := (.ireturn, 1, 0, 0, 0)) (t := .int) (by with_unfolding_all rfl) rfl (by with_unfolding_all rfl) rfl
-- reads()V
set_option maxRecDepth 20000 in
theorem b_185_0 {d nS : Nat} {M : am_M} {Q : Option Value → am_H → Prop} : am_Wp (d + 1) 185 0 [.ref 205, .retAddr 0] [] (hp nS M) Q = am_Wp d 186 0 [.ref 205, .int (M 205 16)] [] (hp nS M) (fun v h1 => am_Wp (d + 1) 185 8 [.ref 205, .retAddr 0] (am_ans v []) h1 Q) := by
  refine (eq_run 3 (q := (5, [.ref 205, .retAddr 0], [.int (M 205 16), .ref 205], hp nS M)) (by with_unfolding_all rfl)).trans ?_
  exact eq_call2 (e := (.invokevirtual 174, 3, 0, 186, 282)) (as := [.ref 205, .int (M 205 16)]) (r := []) (n := 2) (m := 2) (by with_unfolding_all rfl) rfl (by decide) (by with_unfolding_all rfl) (by decide) (by with_unfolding_all rfl) ⟨fun _ => am_rec_ok (c := 14) (by with_unfolding_all rfl) (by decide +kernel), fun z => by simp at z⟩
set_option maxRecDepth 20000 in
theorem b_185_8 {d nS : Nat} {s0 : Int32} {M : am_M} {Q : Option Value → am_H → Prop} : am_Wp d 185 8 [.ref 205, .retAddr 0] [.int s0] (hp nS M) Q = if s0 = 32 then am_Wp d 185 26 [.ref 205, .retAddr 0] [] (hp nS M) Q else am_Wp d 185 13 [.ref 205, .retAddr 0] [] (hp nS M) Q := by
  refine (eq_run 1 (q := (10, [.ref 205, .retAddr 0], [.int 32, .int s0], hp nS M)) (by with_unfolding_all rfl)).trans ?_
  exact eq_cmp_eq (by with_unfolding_all rfl)
set_option maxRecDepth 20000 in
theorem b_185_13 {d nS : Nat} {M : am_M} {Q : Option Value → am_H → Prop} : am_Wp (d + 1) 185 13 [.ref 205, .retAddr 0] [] (hp nS M) Q = am_Wp d 186 0 [.ref 205, .int (M 205 16)] [] (hp nS M) (fun v h1 => am_Wp (d + 1) 185 21 [.ref 205, .retAddr 0] (am_ans v []) h1 Q) := by
  refine (eq_run 3 (q := (18, [.ref 205, .retAddr 0], [.int (M 205 16), .ref 205], hp nS M)) (by with_unfolding_all rfl)).trans ?_
  exact eq_call2 (e := (.invokevirtual 174, 3, 0, 186, 282)) (as := [.ref 205, .int (M 205 16)]) (r := []) (n := 2) (m := 2) (by with_unfolding_all rfl) rfl (by decide) (by with_unfolding_all rfl) (by decide) (by with_unfolding_all rfl) ⟨fun _ => am_rec_ok (c := 14) (by with_unfolding_all rfl) (by decide +kernel), fun z => by simp at z⟩
set_option maxRecDepth 20000 in
theorem b_185_21 {d nS : Nat} {s0 : Int32} {M : am_M} {Q : Option Value → am_H → Prop} : am_Wp d 185 21 [.ref 205, .retAddr 0] [.int s0] (hp nS M) Q = if ¬ s0 = 10 then am_Wp d 185 39 [.ref 205, .retAddr 0] [] (hp nS M) Q else am_Wp d 185 26 [.ref 205, .retAddr 0] [] (hp nS M) Q := by
  refine (eq_run 1 (q := (23, [.ref 205, .retAddr 0], [.int 10, .int s0], hp nS M)) (by with_unfolding_all rfl)).trans ?_
  exact eq_cmp_ne (by with_unfolding_all rfl)
set_option maxRecDepth 20000 in
theorem b_185_26 {d nS : Nat} {M : am_M} {Q : Option Value → am_H → Prop} : am_Wp (d + 1) 185 26 [.ref 205, .retAddr 0] [] (hp nS M) Q = am_Wp d 186 0 [.ref 205, .int ((am_up M 205 16 ((M 205 16) + 1)) 205 16)] [] (hp nS (am_up M 205 16 ((M 205 16) + 1))) (fun v h1 => am_Wp (d + 1) 185 8 [.ref 205, .retAddr 0] (am_ans v []) h1 Q) := by
  refine (eq_run 10 (q := (5, [.ref 205, .retAddr 0], [.int ((am_up M 205 16 ((M 205 16) + 1)) 205 16), .ref 205], hp nS (am_up M 205 16 ((M 205 16) + 1)))) (by with_unfolding_all rfl)).trans ?_
  exact eq_call2 (e := (.invokevirtual 174, 3, 0, 186, 282)) (as := [.ref 205, .int ((am_up M 205 16 ((M 205 16) + 1)) 205 16)]) (r := []) (n := 2) (m := 2) (by with_unfolding_all rfl) rfl (by decide) (by with_unfolding_all rfl) (by decide) (by with_unfolding_all rfl) ⟨fun _ => am_rec_ok (c := 14) (by with_unfolding_all rfl) (by decide +kernel), fun z => by simp at z⟩
set_option maxRecDepth 20000 in
theorem b_185_39 {d nS : Nat} {M : am_M} {Q : Option Value → am_H → Prop} : am_Wp (d + 1) 185 39 [.ref 205, .retAddr 0] [] (hp nS M) Q = am_Wp d 186 0 [.ref 205, .int ((am_up (am_up M 205 17 (M 205 16)) 205 18 1) 205 16)] [] (hp nS (am_up (am_up M 205 17 (M 205 16)) 205 18 1)) (fun v h1 => am_Wp (d + 1) 185 60 [.ref 205, .retAddr 0] (am_ans v []) h1 Q) := by
  refine (eq_run 10 (q := (57, [.ref 205, .retAddr 0], [.int ((am_up (am_up M 205 17 (M 205 16)) 205 18 1) 205 16), .ref 205], hp nS (am_up (am_up M 205 17 (M 205 16)) 205 18 1))) (by with_unfolding_all rfl)).trans ?_
  exact eq_call2 (e := (.invokevirtual 174, 3, 0, 186, 282)) (as := [.ref 205, .int ((am_up (am_up M 205 17 (M 205 16)) 205 18 1) 205 16)]) (r := []) (n := 2) (m := 2) (by with_unfolding_all rfl) rfl (by decide) (by with_unfolding_all rfl) (by decide) (by with_unfolding_all rfl) ⟨fun _ => am_rec_ok (c := 14) (by with_unfolding_all rfl) (by decide +kernel), fun z => by simp at z⟩
set_option maxRecDepth 20000 in
theorem b_185_60 {d nS : Nat} {s0 : Int32} {M : am_M} {Q : Option Value → am_H → Prop} : am_Wp d 185 60 [.ref 205, .retAddr 0] [.int s0] (hp nS M) Q = if ¬ s0 = (-1) then am_Wp d 185 72 [.ref 205, .int s0] [] (hp nS M) Q else am_Wp d 185 66 [.ref 205, .int s0] [] (hp nS M) Q := by
  refine (eq_run 3 (q := (63, [.ref 205, .int s0], [.int (-1), .int s0], hp nS M)) (by with_unfolding_all rfl)).trans ?_
  exact eq_cmp_ne (by with_unfolding_all rfl)
set_option maxRecDepth 20000 in
theorem b_185_66 {d nS : Nat} {x1 : Int32} {M : am_M} {Q : Option Value → am_H → Prop} : am_Wp d 185 66 [.ref 205, .int x1] [] (hp nS M) Q = Q none (hp nS (am_up M 205 18 0)) := by
  refine (eq_run 3 (q := (71, [.ref 205, .int x1], [], hp nS (am_up M 205 18 0))) (by with_unfolding_all rfl)).trans ?_
  exact eq_retV2 (e := (.return_, 1, 0, 0, 0)) (by with_unfolding_all rfl) rfl (by with_unfolding_all rfl)
set_option maxRecDepth 20000 in
theorem b_185_72 {d nS : Nat} {x1 : Int32} {M : am_M} {Q : Option Value → am_H → Prop} : am_Wp (d + 1) 185 72 [.ref 205, .int x1] [] (hp nS M) Q = am_Wp d 187 0 [.ref 205, .int x1] [] (hp nS (am_up (am_up M 205 16 ((M 205 16) + 1)) 205 19 x1)) (fun v h1 => am_Wp (d + 1) 185 92 [.ref 205, .int x1] (am_ans v []) h1 Q) := by
  refine (eq_run 11 (q := (89, [.ref 205, .int x1], [.int x1, .ref 205], hp nS (am_up (am_up M 205 16 ((M 205 16) + 1)) 205 19 x1))) (by with_unfolding_all rfl)).trans ?_
  exact eq_call2 (e := (.invokevirtual 187, 3, 0, 187, 283)) (as := [.ref 205, .int x1]) (r := []) (n := 2) (m := 2) (by with_unfolding_all rfl) rfl (by decide) (by with_unfolding_all rfl) (by decide) (by with_unfolding_all rfl) ⟨fun _ => am_rec_ok (c := 14) (by with_unfolding_all rfl) (by decide +kernel), fun z => by simp at z⟩
set_option maxRecDepth 20000 in
theorem b_185_92 {d nS : Nat} {x1 s0 : Int32} {M : am_M} {Q : Option Value → am_H → Prop} : am_Wp d 185 92 [.ref 205, .int x1] [.int s0] (hp nS M) Q = if s0 = 0 then am_Wp d 185 155 [.ref 205, .int x1] [] (hp nS M) Q else am_Wp d 185 95 [.ref 205, .int x1] [] (hp nS M) Q := by
  exact eq_if_eq (by with_unfolding_all rfl)
set_option maxRecDepth 20000 in
theorem b_185_95 {d nS : Nat} {x1 : Int32} {M : am_M} {Q : Option Value → am_H → Prop} : am_Wp (d + 1) 185 95 [.ref 205, .int x1] [] (hp nS M) Q = am_Wp d 186 0 [.ref 205, .int (M 205 16)] [] (hp nS M) (fun v h1 => am_Wp (d + 1) 185 104 [.ref 205, .int x1] (am_ans v [.ref 205]) h1 Q) := by
  refine (eq_run 4 (q := (101, [.ref 205, .int x1], [.int (M 205 16), .ref 205, .ref 205], hp nS M)) (by with_unfolding_all rfl)).trans ?_
  exact eq_call2 (e := (.invokevirtual 174, 3, 0, 186, 282)) (as := [.ref 205, .int (M 205 16)]) (r := [.ref 205]) (n := 2) (m := 2) (by with_unfolding_all rfl) rfl (by decide) (by with_unfolding_all rfl) (by decide) (by with_unfolding_all rfl) ⟨fun _ => am_rec_ok (c := 14) (by with_unfolding_all rfl) (by decide +kernel), fun z => by simp at z⟩
set_option maxRecDepth 20000 in
theorem b_185_104 {d nS : Nat} {x1 s1 : Int32} {M : am_M} {Q : Option Value → am_H → Prop} : am_Wp (d + 1) 185 104 [.ref 205, .int x1] [.int s1, .ref 205] (hp nS M) Q = am_Wp d 187 0 [.ref 205, .int s1] [] (hp nS M) (fun v h1 => am_Wp (d + 1) 185 107 [.ref 205, .int x1] (am_ans v []) h1 Q) := by
  exact eq_call2 (e := (.invokevirtual 187, 3, 0, 187, 283)) (as := [.ref 205, .int s1]) (r := []) (n := 2) (m := 2) (by with_unfolding_all rfl) rfl (by decide) (by with_unfolding_all rfl) (by decide) (by with_unfolding_all rfl) ⟨fun _ => am_rec_ok (c := 14) (by with_unfolding_all rfl) (by decide +kernel), fun z => by simp at z⟩
set_option maxRecDepth 20000 in
theorem b_185_107 {d nS : Nat} {x1 s0 : Int32} {M : am_M} {Q : Option Value → am_H → Prop} : am_Wp d 185 107 [.ref 205, .int x1] [.int s0] (hp nS M) Q = if s0 = 0 then am_Wp d 185 123 [.ref 205, .int x1] [] (hp nS M) Q else am_Wp d 185 110 [.ref 205, .int x1] [] (hp nS M) Q := by
  exact eq_if_eq (by with_unfolding_all rfl)
set_option maxRecDepth 20000 in
theorem b_185_110 {d nS : Nat} {x1 : Int32} {M : am_M} {Q : Option Value → am_H → Prop} : am_Wp d 185 110 [.ref 205, .int x1] [] (hp nS M) Q = am_Wp d 185 95 [.ref 205, .int x1] [] (hp nS (am_up M 205 16 ((M 205 16) + 1))) Q := by
  exact eq_run 7 (q := (95, [.ref 205, .int x1], [], hp nS (am_up M 205 16 ((M 205 16) + 1)))) (by with_unfolding_all rfl)
set_option maxRecDepth 20000 in
theorem b_185_123 {d nS : Nat} {x1 : Int32} {M : am_M} {Q : Option Value → am_H → Prop} : am_Wp (d + 1) 185 123 [.ref 205, .int x1] [] (hp nS M) Q = am_Wp d 188 0 [.ref 205, .int (M 205 17), .int (M 205 16), .retAddr 0, .retAddr 0, .retAddr 0] [] (hp nS M) (fun v h1 => am_Wp (d + 1) 185 136 [.ref 205, .int x1] (am_ans v [.ref 205]) h1 Q) := by
  refine (eq_run 6 (q := (133, [.ref 205, .int x1], [.int (M 205 16), .int (M 205 17), .ref 205, .ref 205], hp nS M)) (by with_unfolding_all rfl)).trans ?_
  exact eq_call2 (e := (.invokevirtual 190, 3, 0, 188, 284)) (as := [.ref 205, .int (M 205 17), .int (M 205 16)]) (r := [.ref 205]) (n := 3) (m := 6) (by with_unfolding_all rfl) rfl (by decide) (by with_unfolding_all rfl) (by decide) (by with_unfolding_all rfl) ⟨fun _ => am_rec_ok (c := 14) (by with_unfolding_all rfl) (by decide +kernel), fun z => by simp at z⟩
set_option maxRecDepth 20000 in
theorem b_185_136 {d nS : Nat} {x1 s1 : Int32} {M : am_M} {Q : Option Value → am_H → Prop} : am_Wp d 185 136 [.ref 205, .int x1] [.int s1, .ref 205] (hp nS M) Q = if ((am_up M 205 19 s1) 205 19) = (-1) then am_Wp d 185 273 [.ref 205, .int x1] [] (hp nS (am_up M 205 19 s1)) Q else am_Wp d 185 147 [.ref 205, .int x1] [] (hp nS (am_up M 205 19 s1)) Q := by
  refine (eq_run 4 (q := (144, [.ref 205, .int x1], [.int (-1), .int ((am_up M 205 19 s1) 205 19)], hp nS (am_up M 205 19 s1))) (by with_unfolding_all rfl)).trans ?_
  exact eq_cmp_eq (by with_unfolding_all rfl)
set_option maxRecDepth 20000 in
theorem b_185_147 {d nS : Nat} {x1 : Int32} {M : am_M} {Q : Option Value → am_H → Prop} : am_Wp d 185 147 [.ref 205, .int x1] [] (hp nS M) Q = am_Wp d 185 273 [.ref 205, .int x1] [] (hp nS (am_up M 205 18 2)) Q := by
  exact eq_run 4 (q := (273, [.ref 205, .int x1], [], hp nS (am_up M 205 18 2))) (by with_unfolding_all rfl)
set_option maxRecDepth 20000 in
theorem b_185_155 {d nS : Nat} {x1 : Int32} {M : am_M} {Q : Option Value → am_H → Prop} : am_Wp (d + 1) 185 155 [.ref 205, .int x1] [] (hp nS M) Q = am_Wp d 189 0 [.ref 205, .int x1] [] (hp nS M) (fun v h1 => am_Wp (d + 1) 185 160 [.ref 205, .int x1] (am_ans v []) h1 Q) := by
  refine (eq_run 2 (q := (157, [.ref 205, .int x1], [.int x1, .ref 205], hp nS M)) (by with_unfolding_all rfl)).trans ?_
  exact eq_call2 (e := (.invokevirtual 193, 3, 0, 189, 285)) (as := [.ref 205, .int x1]) (r := []) (n := 2) (m := 2) (by with_unfolding_all rfl) rfl (by decide) (by with_unfolding_all rfl) (by decide) (by with_unfolding_all rfl) ⟨fun _ => am_rec_ok (c := 14) (by with_unfolding_all rfl) (by decide +kernel), fun z => by simp at z⟩
set_option maxRecDepth 20000 in
theorem b_185_160 {d nS : Nat} {x1 s0 : Int32} {M : am_M} {Q : Option Value → am_H → Prop} : am_Wp d 185 160 [.ref 205, .int x1] [.int s0] (hp nS M) Q = if s0 = 0 then am_Wp d 185 260 [.ref 205, .int x1] [] (hp nS M) Q else am_Wp d 185 163 [.ref 205, .int x1] [] (hp nS M) Q := by
  exact eq_if_eq (by with_unfolding_all rfl)
set_option maxRecDepth 20000 in
theorem b_185_163 {d nS : Nat} {x1 : Int32} {M : am_M} {Q : Option Value → am_H → Prop} : am_Wp d 185 163 [.ref 205, .int x1] [] (hp nS M) Q = am_Wp d 185 171 [.ref 205, .int x1] [] (hp nS (am_up M 205 19 (x1 - 48))) Q := by
  exact eq_run 5 (q := (171, [.ref 205, .int x1], [], hp nS (am_up M 205 19 (x1 - 48)))) (by with_unfolding_all rfl)
set_option maxRecDepth 20000 in
theorem b_185_171 {d nS : Nat} {x1 : Int32} {M : am_M} {Q : Option Value → am_H → Prop} : am_Wp (d + 1) 185 171 [.ref 205, .int x1] [] (hp nS M) Q = am_Wp d 186 0 [.ref 205, .int (M 205 16)] [] (hp nS M) (fun v h1 => am_Wp (d + 1) 185 180 [.ref 205, .int x1] (am_ans v [.ref 205]) h1 Q) := by
  refine (eq_run 4 (q := (177, [.ref 205, .int x1], [.int (M 205 16), .ref 205, .ref 205], hp nS M)) (by with_unfolding_all rfl)).trans ?_
  exact eq_call2 (e := (.invokevirtual 174, 3, 0, 186, 282)) (as := [.ref 205, .int (M 205 16)]) (r := [.ref 205]) (n := 2) (m := 2) (by with_unfolding_all rfl) rfl (by decide) (by with_unfolding_all rfl) (by decide) (by with_unfolding_all rfl) ⟨fun _ => am_rec_ok (c := 14) (by with_unfolding_all rfl) (by decide +kernel), fun z => by simp at z⟩
set_option maxRecDepth 20000 in
theorem b_185_180 {d nS : Nat} {x1 s1 : Int32} {M : am_M} {Q : Option Value → am_H → Prop} : am_Wp (d + 1) 185 180 [.ref 205, .int x1] [.int s1, .ref 205] (hp nS M) Q = am_Wp d 189 0 [.ref 205, .int s1] [] (hp nS M) (fun v h1 => am_Wp (d + 1) 185 183 [.ref 205, .int x1] (am_ans v []) h1 Q) := by
  exact eq_call2 (e := (.invokevirtual 193, 3, 0, 189, 285)) (as := [.ref 205, .int s1]) (r := []) (n := 2) (m := 2) (by with_unfolding_all rfl) rfl (by decide) (by with_unfolding_all rfl) (by decide) (by with_unfolding_all rfl) ⟨fun _ => am_rec_ok (c := 14) (by with_unfolding_all rfl) (by decide +kernel), fun z => by simp at z⟩
set_option maxRecDepth 20000 in
theorem b_185_183 {d nS : Nat} {x1 s0 : Int32} {M : am_M} {Q : Option Value → am_H → Prop} : am_Wp d 185 183 [.ref 205, .int x1] [.int s0] (hp nS M) Q = if s0 = 0 then am_Wp d 185 239 [.ref 205, .int x1] [] (hp nS M) Q else am_Wp d 185 186 [.ref 205, .int x1] [] (hp nS M) Q := by
  exact eq_if_eq (by with_unfolding_all rfl)
set_option maxRecDepth 20000 in
theorem b_185_186 {d nS : Nat} {x1 : Int32} {M : am_M} {Q : Option Value → am_H → Prop} : am_Wp d 185 186 [.ref 205, .int x1] [] (hp nS M) Q = if 10000 ≤ (M 205 19) then am_Wp d 185 219 [.ref 205, .int x1] [.ref 205] (hp nS M) Q else am_Wp d 185 197 [.ref 205, .int x1] [.ref 205] (hp nS M) Q := by
  refine (eq_run 4 (q := (194, [.ref 205, .int x1], [.int 10000, .int (M 205 19), .ref 205], hp nS M)) (by with_unfolding_all rfl)).trans ?_
  exact eq_cmp_ge (by with_unfolding_all rfl)
set_option maxRecDepth 20000 in
theorem b_185_197 {d nS : Nat} {x1 : Int32} {M : am_M} {Q : Option Value → am_H → Prop} : am_Wp (d + 1) 185 197 [.ref 205, .int x1] [.ref 205] (hp nS M) Q = am_Wp d 186 0 [.ref 205, .int (M 205 16)] [] (hp nS M) (fun v h1 => am_Wp (d + 1) 185 212 [.ref 205, .int x1] (am_ans v [.int (10 * (M 205 19)), .ref 205]) h1 Q) := by
  refine (eq_run 7 (q := (209, [.ref 205, .int x1], [.int (M 205 16), .ref 205, .int (10 * (M 205 19)), .ref 205], hp nS M)) (by with_unfolding_all rfl)).trans ?_
  exact eq_call2 (e := (.invokevirtual 174, 3, 0, 186, 282)) (as := [.ref 205, .int (M 205 16)]) (r := [.int (10 * (M 205 19)), .ref 205]) (n := 2) (m := 2) (by with_unfolding_all rfl) rfl (by decide) (by with_unfolding_all rfl) (by decide) (by with_unfolding_all rfl) ⟨fun _ => am_rec_ok (c := 14) (by with_unfolding_all rfl) (by decide +kernel), fun z => by simp at z⟩
set_option maxRecDepth 20000 in
theorem b_185_212 {d nS : Nat} {x1 s1 s2 : Int32} {M : am_M} {Q : Option Value → am_H → Prop} : am_Wp d 185 212 [.ref 205, .int x1] [.int s2, .int s1, .ref 205] (hp nS M) Q = am_Wp d 185 223 [.ref 205, .int x1] [.int ((s1 + s2) - 48), .ref 205] (hp nS M) Q := by
  exact eq_run 4 (q := (223, [.ref 205, .int x1], [.int ((s1 + s2) - 48), .ref 205], hp nS M)) (by with_unfolding_all rfl)
set_option maxRecDepth 20000 in
theorem b_185_219 {d nS : Nat} {x1 : Int32} {M : am_M} {Q : Option Value → am_H → Prop} : am_Wp d 185 219 [.ref 205, .int x1] [.ref 205] (hp nS M) Q = am_Wp d 185 223 [.ref 205, .int x1] [.int (M 205 19), .ref 205] (hp nS M) Q := by
  exact eq_run 2 (q := (223, [.ref 205, .int x1], [.int (M 205 19), .ref 205], hp nS M)) (by with_unfolding_all rfl)
set_option maxRecDepth 20000 in
theorem b_185_223 {d nS : Nat} {x1 s1 : Int32} {M : am_M} {Q : Option Value → am_H → Prop} : am_Wp d 185 223 [.ref 205, .int x1] [.int s1, .ref 205] (hp nS M) Q = am_Wp d 185 171 [.ref 205, .int x1] [] (hp nS (am_up (am_up M 205 19 s1) 205 16 (((am_up M 205 19 s1) 205 16) + 1))) Q := by
  exact eq_run 8 (q := (171, [.ref 205, .int x1], [], hp nS (am_up (am_up M 205 19 s1) 205 16 (((am_up M 205 19 s1) 205 16) + 1)))) (by with_unfolding_all rfl)
set_option maxRecDepth 20000 in
theorem b_185_239 {d nS : Nat} {x1 : Int32} {M : am_M} {Q : Option Value → am_H → Prop} : am_Wp d 185 239 [.ref 205, .int x1] [] (hp nS M) Q = if 5 ≤ ((M 205 16) - (M 205 17)) then am_Wp d 185 273 [.ref 205, .int x1] [] (hp nS M) Q else am_Wp d 185 252 [.ref 205, .int x1] [] (hp nS M) Q := by
  refine (eq_run 6 (q := (249, [.ref 205, .int x1], [.int 5, .int ((M 205 16) - (M 205 17))], hp nS M)) (by with_unfolding_all rfl)).trans ?_
  exact eq_cmp_ge (by with_unfolding_all rfl)
set_option maxRecDepth 20000 in
theorem b_185_252 {d nS : Nat} {x1 : Int32} {M : am_M} {Q : Option Value → am_H → Prop} : am_Wp d 185 252 [.ref 205, .int x1] [] (hp nS M) Q = am_Wp d 185 273 [.ref 205, .int x1] [] (hp nS (am_up M 205 18 3)) Q := by
  exact eq_run 4 (q := (273, [.ref 205, .int x1], [], hp nS (am_up M 205 18 3))) (by with_unfolding_all rfl)
set_option maxRecDepth 20000 in
theorem b_185_260 {d nS : Nat} {x1 : Int32} {M : am_M} {Q : Option Value → am_H → Prop} : am_Wp (d + 1) 185 260 [.ref 205, .int x1] [] (hp nS M) Q = am_Wp d 190 0 [.ref 205, .int x1] [] (hp nS M) (fun v h1 => am_Wp (d + 1) 185 265 [.ref 205, .int x1] (am_ans v []) h1 Q) := by
  refine (eq_run 2 (q := (262, [.ref 205, .int x1], [.int x1, .ref 205], hp nS M)) (by with_unfolding_all rfl)).trans ?_
  exact eq_call2 (e := (.invokevirtual 196, 3, 0, 190, 286)) (as := [.ref 205, .int x1]) (r := []) (n := 2) (m := 2) (by with_unfolding_all rfl) rfl (by decide) (by with_unfolding_all rfl) (by decide) (by with_unfolding_all rfl) ⟨fun _ => am_rec_ok (c := 14) (by with_unfolding_all rfl) (by decide +kernel), fun z => by simp at z⟩
set_option maxRecDepth 20000 in
theorem b_185_265 {d nS : Nat} {x1 s0 : Int32} {M : am_M} {Q : Option Value → am_H → Prop} : am_Wp d 185 265 [.ref 205, .int x1] [.int s0] (hp nS M) Q = if s0 = 0 then am_Wp d 185 273 [.ref 205, .int x1] [] (hp nS M) Q else am_Wp d 185 268 [.ref 205, .int x1] [] (hp nS M) Q := by
  exact eq_if_eq (by with_unfolding_all rfl)
set_option maxRecDepth 20000 in
theorem b_185_268 {d nS : Nat} {x1 : Int32} {M : am_M} {Q : Option Value → am_H → Prop} : am_Wp d 185 268 [.ref 205, .int x1] [] (hp nS M) Q = am_Wp d 185 273 [.ref 205, .int x1] [] (hp nS (am_up M 205 18 4)) Q := by
  exact eq_run 3 (q := (273, [.ref 205, .int x1], [], hp nS (am_up M 205 18 4))) (by with_unfolding_all rfl)
set_option maxRecDepth 20000 in
theorem b_185_273 {d nS : Nat} {x1 : Int32} {M : am_M} {Q : Option Value → am_H → Prop} : am_Wp d 185 273 [.ref 205, .int x1] [] (hp nS M) Q = Q none (hp nS M) := by
  exact eq_retV2 (e := (.return_, 1, 0, 0, 0)) (by with_unfolding_all rfl) rfl (by with_unfolding_all rfl)
-- raw(I)I
set_option maxRecDepth 20000 in
theorem b_186_0 {d nS : Nat} {x1 : Int32} {M : am_M} {Q : Option Value → am_H → Prop} : am_Wp d 186 0 [.ref 205, .int x1] [] (hp nS M) Q = if (M 205 15) ≤ x1 then am_Wp d 186 17 [.ref 205, .int x1] [] (hp nS M) Q else am_Wp d 186 8 [.ref 205, .int x1] [] (hp nS M) Q := by
  refine (eq_run 3 (q := (5, [.ref 205, .int x1], [.int (M 205 15), .int x1], hp nS M)) (by with_unfolding_all rfl)).trans ?_
  exact eq_cmp_ge (by with_unfolding_all rfl)
set_option maxRecDepth 20000 in
theorem b_186_8 {d nS : Nat} {x1 : Int32} {M : am_M} {Q : Option Value → am_H → Prop} (h1 : vp_in x1 400) : am_Wp d 186 8 [.ref 205, .int x1] [] (hp nS M) Q = am_Wp d 186 18 [.ref 205, .int x1] [.int (M 212 x1.toNatClampNeg)] (hp nS M) Q := by
  refine (eq_run 3 (q := (13, [.ref 205, .int x1], [.int x1, .ref 212], hp nS M)) (by with_unfolding_all rfl)).trans ?_
  refine (eq_ald (e := (.iaload, 1, 0, 0, 0)) (by with_unfolding_all rfl) rfl (n := 400) (by with_unfolding_all rfl) h1).trans ?_
  exact eq_run 1 (q := (18, [.ref 205, .int x1], [.int (M 212 x1.toNatClampNeg)], hp nS M)) (by with_unfolding_all rfl)
set_option maxRecDepth 20000 in
theorem b_186_17 {d nS : Nat} {x1 : Int32} {M : am_M} {Q : Option Value → am_H → Prop} : am_Wp d 186 17 [.ref 205, .int x1] [] (hp nS M) Q = am_Wp d 186 18 [.ref 205, .int x1] [.int (-1)] (hp nS M) Q := by
  exact eq_run 1 (q := (18, [.ref 205, .int x1], [.int (-1)], hp nS M)) (by with_unfolding_all rfl)
set_option maxRecDepth 20000 in
theorem b_186_18 {d nS : Nat} {x1 s0 : Int32} {M : am_M} {Q : Option Value → am_H → Prop} : am_Wp d 186 18 [.ref 205, .int x1] [.int s0] (hp nS M) Q = Q (some (.int s0)) (hp nS M) := by
  exact eq_retI2 (e := (.ireturn, 1, 0, 0, 0)) (t := .int) (by with_unfolding_all rfl) rfl (by with_unfolding_all rfl) rfl
-- isLetter(I)Z
set_option maxRecDepth 20000 in
theorem b_187_0 {d nS : Nat} {x1 : Int32} {M : am_M} {Q : Option Value → am_H → Prop} : am_Wp (d + 1) 187 0 [.ref 205, .int x1] [] (hp nS M) Q = am_Wp d 171 0 [.ref 205, .int x1, .int 97, .int 122] [] (hp nS M) (fun v h1 => am_Wp (d + 1) 187 9 [.ref 205, .int x1] (am_ans v []) h1 Q) := by
  refine (eq_run 4 (q := (6, [.ref 205, .int x1], [.int 122, .int 97, .int x1, .ref 205], hp nS M)) (by with_unfolding_all rfl)).trans ?_
  exact eq_call2 (e := (.invokevirtual 144, 3, 0, 171, 275)) (as := [.ref 205, .int x1, .int 97, .int 122]) (r := []) (n := 4) (m := 4) (by with_unfolding_all rfl) rfl (by decide) (by with_unfolding_all rfl) (by decide) (by with_unfolding_all rfl) ⟨fun _ => am_rec_ok (c := 14) (by with_unfolding_all rfl) (by decide +kernel), fun z => by simp at z⟩
set_option maxRecDepth 20000 in
theorem b_187_9 {d nS : Nat} {x1 s0 : Int32} {M : am_M} {Q : Option Value → am_H → Prop} : am_Wp d 187 9 [.ref 205, .int x1] [.int s0] (hp nS M) Q = if ¬ s0 = 0 then am_Wp d 187 24 [.ref 205, .int x1] [] (hp nS M) Q else am_Wp d 187 12 [.ref 205, .int x1] [] (hp nS M) Q := by
  exact eq_if_ne (by with_unfolding_all rfl)
set_option maxRecDepth 20000 in
theorem b_187_12 {d nS : Nat} {x1 : Int32} {M : am_M} {Q : Option Value → am_H → Prop} : am_Wp (d + 1) 187 12 [.ref 205, .int x1] [] (hp nS M) Q = am_Wp d 171 0 [.ref 205, .int x1, .int 65, .int 90] [] (hp nS M) (fun v h1 => am_Wp (d + 1) 187 21 [.ref 205, .int x1] (am_ans v []) h1 Q) := by
  refine (eq_run 4 (q := (18, [.ref 205, .int x1], [.int 90, .int 65, .int x1, .ref 205], hp nS M)) (by with_unfolding_all rfl)).trans ?_
  exact eq_call2 (e := (.invokevirtual 144, 3, 0, 171, 275)) (as := [.ref 205, .int x1, .int 65, .int 90]) (r := []) (n := 4) (m := 4) (by with_unfolding_all rfl) rfl (by decide) (by with_unfolding_all rfl) (by decide) (by with_unfolding_all rfl) ⟨fun _ => am_rec_ok (c := 14) (by with_unfolding_all rfl) (by decide +kernel), fun z => by simp at z⟩
set_option maxRecDepth 20000 in
theorem b_187_21 {d nS : Nat} {x1 s0 : Int32} {M : am_M} {Q : Option Value → am_H → Prop} : am_Wp d 187 21 [.ref 205, .int x1] [.int s0] (hp nS M) Q = if s0 = 0 then am_Wp d 187 28 [.ref 205, .int x1] [] (hp nS M) Q else am_Wp d 187 24 [.ref 205, .int x1] [] (hp nS M) Q := by
  exact eq_if_eq (by with_unfolding_all rfl)
set_option maxRecDepth 20000 in
theorem b_187_24 {d nS : Nat} {x1 : Int32} {M : am_M} {Q : Option Value → am_H → Prop} : am_Wp d 187 24 [.ref 205, .int x1] [] (hp nS M) Q = am_Wp d 187 29 [.ref 205, .int x1] [.int 1] (hp nS M) Q := by
  exact eq_run 2 (q := (29, [.ref 205, .int x1], [.int 1], hp nS M)) (by with_unfolding_all rfl)
set_option maxRecDepth 20000 in
theorem b_187_28 {d nS : Nat} {x1 : Int32} {M : am_M} {Q : Option Value → am_H → Prop} : am_Wp d 187 28 [.ref 205, .int x1] [] (hp nS M) Q = am_Wp d 187 29 [.ref 205, .int x1] [.int 0] (hp nS M) Q := by
  exact eq_run 1 (q := (29, [.ref 205, .int x1], [.int 0], hp nS M)) (by with_unfolding_all rfl)
set_option maxRecDepth 20000 in
theorem b_187_29 {d nS : Nat} {x1 s0 : Int32} {M : am_M} {Q : Option Value → am_H → Prop} (h1 : am_rok .boolean s0 = true) : am_Wp d 187 29 [.ref 205, .int x1] [.int s0] (hp nS M) Q = Q (some (.int s0)) (hp nS M) := by
  exact eq_retI2 (e := (.ireturn, 1, 0, 0, 0)) (t := .boolean) (by with_unfolding_all rfl) rfl (by with_unfolding_all rfl) h1
-- wordAt(II)I
set_option maxRecDepth 20000 in
theorem b_188_0 {d nS : Nat} {x1 x2 : Int32} {M : am_M} {Q : Option Value → am_H → Prop} : am_Wp d 188 0 [.ref 205, .int x1, .int x2, .retAddr 0, .retAddr 0, .retAddr 0] [] (hp nS M) Q = am_Wp d 188 5 [.ref 205, .int x1, .int x2, .int (-1), .int 0, .retAddr 0] [] (hp nS M) Q := by
  exact eq_run 4 (q := (5, [.ref 205, .int x1, .int x2, .int (-1), .int 0, .retAddr 0], [], hp nS M)) (by with_unfolding_all rfl)
set_option maxRecDepth 20000 in
theorem b_188_5 {d nS : Nat} {x1 x2 x3 x4 : Int32} {zx5 : Value} {M : am_M} {Q : Option Value → am_H → Prop} : am_Wp d 188 5 [.ref 205, .int x1, .int x2, .int x3, .int x4, zx5] [] (hp nS M) Q = if 127 ≤ x4 then am_Wp d 188 117 [.ref 205, .int x1, .int x2, .int x3, .int x4, zx5] [] (hp nS M) Q else am_Wp d 188 12 [.ref 205, .int x1, .int x2, .int x3, .int x4, zx5] [] (hp nS M) Q := by
  refine (eq_run 2 (q := (9, [.ref 205, .int x1, .int x2, .int x3, .int x4, zx5], [.int 127, .int x4], hp nS M)) (by with_unfolding_all rfl)).trans ?_
  exact eq_cmp_ge (by with_unfolding_all rfl)
set_option maxRecDepth 20000 in
theorem b_188_12 {d nS : Nat} {x1 x2 x3 x4 : Int32} {zx5 : Value} {M : am_M} {Q : Option Value → am_H → Prop} : am_Wp d 188 12 [.ref 205, .int x1, .int x2, .int x3, .int x4, zx5] [] (hp nS M) Q = am_Wp d 188 19 [.ref 205, .int x1, .int x2, .int (x3 + 1), .int x4, .int 0] [] (hp nS M) Q := by
  exact eq_run 6 (q := (19, [.ref 205, .int x1, .int x2, .int (x3 + 1), .int x4, .int 0], [], hp nS M)) (by with_unfolding_all rfl)
set_option maxRecDepth 20000 in
theorem b_188_19 {d nS : Nat} {x1 x2 x3 x4 x5 : Int32} {M : am_M} {Q : Option Value → am_H → Prop} : am_Wp d 188 19 [.ref 205, .int x1, .int x2, .int x3, .int x4, .int x5] [] (hp nS M) Q = if x2 ≤ (x1 + x5) then am_Wp d 188 60 [.ref 205, .int x1, .int x2, .int x3, .int x4, .int x5] [] (hp nS M) Q else am_Wp d 188 27 [.ref 205, .int x1, .int x2, .int x3, .int x4, .int x5] [] (hp nS M) Q := by
  refine (eq_run 4 (q := (24, [.ref 205, .int x1, .int x2, .int x3, .int x4, .int x5], [.int x2, .int (x1 + x5)], hp nS M)) (by with_unfolding_all rfl)).trans ?_
  exact eq_cmp_ge (by with_unfolding_all rfl)
set_option maxRecDepth 20000 in
theorem b_188_27 {d nS : Nat} {x1 x2 x3 x4 x5 : Int32} {M : am_M} {Q : Option Value → am_H → Prop} (h1 : vp_in ((x4 + 1) + x5) 128) (h2 : vp_in (x1 + x5) 400) : am_Wp d 188 27 [.ref 205, .int x1, .int x2, .int x3, .int x4, .int x5] [] (hp nS M) Q = if ¬ (M 213 ((x4 + 1) + x5).toNatClampNeg) = (M 212 (x1 + x5).toNatClampNeg) then am_Wp d 188 60 [.ref 205, .int x1, .int x2, .int x3, .int x4, .int x5] [] (hp nS M) Q else am_Wp d 188 51 [.ref 205, .int x1, .int x2, .int x3, .int x4, .int x5] [] (hp nS M) Q := by
  refine (eq_run 7 (q := (38, [.ref 205, .int x1, .int x2, .int x3, .int x4, .int x5], [.int ((x4 + 1) + x5), .ref 213], hp nS M)) (by with_unfolding_all rfl)).trans ?_
  refine (eq_ald (e := (.iaload, 1, 0, 0, 0)) (by with_unfolding_all rfl) rfl (n := 128) (by with_unfolding_all rfl) h1).trans ?_
  refine (eq_run 5 (q := (47, [.ref 205, .int x1, .int x2, .int x3, .int x4, .int x5], [.int (x1 + x5), .ref 212, .int (M 213 ((x4 + 1) + x5).toNatClampNeg)], hp nS M)) (by with_unfolding_all rfl)).trans ?_
  refine (eq_ald (e := (.iaload, 1, 0, 0, 0)) (by with_unfolding_all rfl) rfl (n := 400) (by with_unfolding_all rfl) h2).trans ?_
  exact eq_cmp_ne (by with_unfolding_all rfl)
set_option maxRecDepth 20000 in
theorem b_188_51 {d nS : Nat} {x1 x2 x3 x4 x5 : Int32} {M : am_M} {Q : Option Value → am_H → Prop} : am_Wp d 188 51 [.ref 205, .int x1, .int x2, .int x3, .int x4, .int x5] [] (hp nS M) Q = am_Wp d 188 19 [.ref 205, .int x1, .int x2, .int x3, .int x4, .int (x5 + 1)] [] (hp nS M) Q := by
  exact eq_run 5 (q := (19, [.ref 205, .int x1, .int x2, .int x3, .int x4, .int (x5 + 1)], [], hp nS M)) (by with_unfolding_all rfl)
set_option maxRecDepth 20000 in
theorem b_188_60 {d nS : Nat} {x1 x2 x3 x4 x5 : Int32} {M : am_M} {Q : Option Value → am_H → Prop} : am_Wp d 188 60 [.ref 205, .int x1, .int x2, .int x3, .int x4, .int x5] [] (hp nS M) Q = if ¬ (x1 + x5) = x2 then am_Wp d 188 87 [.ref 205, .int x1, .int x2, .int x3, .int x4, .int x5] [] (hp nS M) Q else am_Wp d 188 68 [.ref 205, .int x1, .int x2, .int x3, .int x4, .int x5] [] (hp nS M) Q := by
  refine (eq_run 4 (q := (65, [.ref 205, .int x1, .int x2, .int x3, .int x4, .int x5], [.int x2, .int (x1 + x5)], hp nS M)) (by with_unfolding_all rfl)).trans ?_
  exact eq_cmp_ne (by with_unfolding_all rfl)
set_option maxRecDepth 20000 in
theorem b_188_68 {d nS : Nat} {x1 x2 x3 x4 x5 : Int32} {M : am_M} {Q : Option Value → am_H → Prop} (h1 : vp_in ((x4 + 1) + x5) 128) : am_Wp d 188 68 [.ref 205, .int x1, .int x2, .int x3, .int x4, .int x5] [] (hp nS M) Q = if ¬ (M 213 ((x4 + 1) + x5).toNatClampNeg) = 32 then am_Wp d 188 87 [.ref 205, .int x1, .int x2, .int x3, .int x4, .int x5] [] (hp nS M) Q else am_Wp d 188 85 [.ref 205, .int x1, .int x2, .int x3, .int x4, .int x5] [] (hp nS M) Q := by
  refine (eq_run 7 (q := (79, [.ref 205, .int x1, .int x2, .int x3, .int x4, .int x5], [.int ((x4 + 1) + x5), .ref 213], hp nS M)) (by with_unfolding_all rfl)).trans ?_
  refine (eq_ald (e := (.iaload, 1, 0, 0, 0)) (by with_unfolding_all rfl) rfl (n := 128) (by with_unfolding_all rfl) h1).trans ?_
  refine (eq_run 1 (q := (82, [.ref 205, .int x1, .int x2, .int x3, .int x4, .int x5], [.int 32, .int (M 213 ((x4 + 1) + x5).toNatClampNeg)], hp nS M)) (by with_unfolding_all rfl)).trans ?_
  exact eq_cmp_ne (by with_unfolding_all rfl)
set_option maxRecDepth 20000 in
theorem b_188_85 {d nS : Nat} {x1 x2 x3 x4 x5 : Int32} {M : am_M} {Q : Option Value → am_H → Prop} : am_Wp d 188 85 [.ref 205, .int x1, .int x2, .int x3, .int x4, .int x5] [] (hp nS M) Q = Q (some (.int x3)) (hp nS M) := by
  refine (eq_run 1 (q := (86, [.ref 205, .int x1, .int x2, .int x3, .int x4, .int x5], [.int x3], hp nS M)) (by with_unfolding_all rfl)).trans ?_
  exact eq_retI2 (e := (.ireturn, 1, 0, 0, 0)) (t := .int) (by with_unfolding_all rfl) rfl (by with_unfolding_all rfl) rfl
set_option maxRecDepth 20000 in
theorem b_188_87 {d nS : Nat} {x1 x2 x3 x4 x5 : Int32} {M : am_M} {Q : Option Value → am_H → Prop} : am_Wp d 188 87 [.ref 205, .int x1, .int x2, .int x3, .int x4, .int x5] [] (hp nS M) Q = am_Wp d 188 93 [.ref 205, .int x1, .int x2, .int x3, .int (x4 + 1), .int x5] [] (hp nS M) Q := by
  exact eq_run 4 (q := (93, [.ref 205, .int x1, .int x2, .int x3, .int (x4 + 1), .int x5], [], hp nS M)) (by with_unfolding_all rfl)
set_option maxRecDepth 20000 in
theorem b_188_93 {d nS : Nat} {x1 x2 x3 x4 x5 : Int32} {M : am_M} {Q : Option Value → am_H → Prop} (h1 : vp_in x4 128) : am_Wp d 188 93 [.ref 205, .int x1, .int x2, .int x3, .int x4, .int x5] [] (hp nS M) Q = if (M 213 x4.toNatClampNeg) = 32 then am_Wp d 188 114 [.ref 205, .int x1, .int x2, .int x3, .int x4, .int x5] [] (hp nS M) Q else am_Wp d 188 105 [.ref 205, .int x1, .int x2, .int x3, .int x4, .int x5] [] (hp nS M) Q := by
  refine (eq_run 3 (q := (99, [.ref 205, .int x1, .int x2, .int x3, .int x4, .int x5], [.int x4, .ref 213], hp nS M)) (by with_unfolding_all rfl)).trans ?_
  refine (eq_ald (e := (.iaload, 1, 0, 0, 0)) (by with_unfolding_all rfl) rfl (n := 128) (by with_unfolding_all rfl) h1).trans ?_
  refine (eq_run 1 (q := (102, [.ref 205, .int x1, .int x2, .int x3, .int x4, .int x5], [.int 32, .int (M 213 x4.toNatClampNeg)], hp nS M)) (by with_unfolding_all rfl)).trans ?_
  exact eq_cmp_eq (by with_unfolding_all rfl)
set_option maxRecDepth 20000 in
theorem b_188_105 {d nS : Nat} {x1 x2 x3 x4 x5 : Int32} {M : am_M} {Q : Option Value → am_H → Prop} : am_Wp d 188 105 [.ref 205, .int x1, .int x2, .int x3, .int x4, .int x5] [] (hp nS M) Q = am_Wp d 188 93 [.ref 205, .int x1, .int x2, .int x3, .int (x4 + 1), .int x5] [] (hp nS M) Q := by
  exact eq_run 5 (q := (93, [.ref 205, .int x1, .int x2, .int x3, .int (x4 + 1), .int x5], [], hp nS M)) (by with_unfolding_all rfl)
set_option maxRecDepth 20000 in
theorem b_188_114 {d nS : Nat} {x1 x2 x3 x4 x5 : Int32} {M : am_M} {Q : Option Value → am_H → Prop} : am_Wp d 188 114 [.ref 205, .int x1, .int x2, .int x3, .int x4, .int x5] [] (hp nS M) Q = am_Wp d 188 5 [.ref 205, .int x1, .int x2, .int x3, .int x4, .int x5] [] (hp nS M) Q := by
  exact eq_run 1 (q := (5, [.ref 205, .int x1, .int x2, .int x3, .int x4, .int x5], [], hp nS M)) (by with_unfolding_all rfl)
set_option maxRecDepth 20000 in
theorem b_188_117 {d nS : Nat} {x1 x2 x3 x4 : Int32} {zx5 : Value} {M : am_M} {Q : Option Value → am_H → Prop} : am_Wp d 188 117 [.ref 205, .int x1, .int x2, .int x3, .int x4, zx5] [] (hp nS M) Q = Q (some (.int (-1))) (hp nS M) := by
  refine (eq_run 1 (q := (118, [.ref 205, .int x1, .int x2, .int x3, .int x4, zx5], [.int (-1)], hp nS M)) (by with_unfolding_all rfl)).trans ?_
  exact eq_retI2 (e := (.ireturn, 1, 0, 0, 0)) (t := .int) (by with_unfolding_all rfl) rfl (by with_unfolding_all rfl) rfl
-- isDigit(I)Z
set_option maxRecDepth 20000 in
theorem b_189_0 {d nS : Nat} {x1 : Int32} {M : am_M} {Q : Option Value → am_H → Prop} : am_Wp (d + 1) 189 0 [.ref 205, .int x1] [] (hp nS M) Q = am_Wp d 171 0 [.ref 205, .int x1, .int 48, .int 57] [] (hp nS M) (fun v h1 => am_Wp (d + 1) 189 9 [.ref 205, .int x1] (am_ans v []) h1 Q) := by
  refine (eq_run 4 (q := (6, [.ref 205, .int x1], [.int 57, .int 48, .int x1, .ref 205], hp nS M)) (by with_unfolding_all rfl)).trans ?_
  exact eq_call2 (e := (.invokevirtual 144, 3, 0, 171, 275)) (as := [.ref 205, .int x1, .int 48, .int 57]) (r := []) (n := 4) (m := 4) (by with_unfolding_all rfl) rfl (by decide) (by with_unfolding_all rfl) (by decide) (by with_unfolding_all rfl) ⟨fun _ => am_rec_ok (c := 14) (by with_unfolding_all rfl) (by decide +kernel), fun z => by simp at z⟩
set_option maxRecDepth 20000 in
theorem b_189_9 {d nS : Nat} {x1 s0 : Int32} {M : am_M} {Q : Option Value → am_H → Prop} (h1 : am_rok .boolean s0 = true) : am_Wp d 189 9 [.ref 205, .int x1] [.int s0] (hp nS M) Q = Q (some (.int s0)) (hp nS M) := by
  exact eq_retI2 (e := (.ireturn, 1, 0, 0, 0)) (t := .boolean) (by with_unfolding_all rfl) rfl (by with_unfolding_all rfl) h1
-- isMarkSign(I)Z
set_option maxRecDepth 20000 in
theorem b_190_0 {d nS : Nat} {x1 : Int32} {M : am_M} {Q : Option Value → am_H → Prop} : am_Wp d 190 0 [.ref 205, .int x1] [] (hp nS M) Q = if x1 = 59 then am_Wp d 190 60 [.ref 205, .int x1] [] (hp nS M) Q else am_Wp d 190 6 [.ref 205, .int x1] [] (hp nS M) Q := by
  refine (eq_run 2 (q := (3, [.ref 205, .int x1], [.int 59, .int x1], hp nS M)) (by with_unfolding_all rfl)).trans ?_
  exact eq_cmp_eq (by with_unfolding_all rfl)
set_option maxRecDepth 20000 in
theorem b_190_6 {d nS : Nat} {x1 : Int32} {M : am_M} {Q : Option Value → am_H → Prop} : am_Wp d 190 6 [.ref 205, .int x1] [] (hp nS M) Q = if x1 = 43 then am_Wp d 190 60 [.ref 205, .int x1] [] (hp nS M) Q else am_Wp d 190 12 [.ref 205, .int x1] [] (hp nS M) Q := by
  refine (eq_run 2 (q := (9, [.ref 205, .int x1], [.int 43, .int x1], hp nS M)) (by with_unfolding_all rfl)).trans ?_
  exact eq_cmp_eq (by with_unfolding_all rfl)
set_option maxRecDepth 20000 in
theorem b_190_12 {d nS : Nat} {x1 : Int32} {M : am_M} {Q : Option Value → am_H → Prop} : am_Wp d 190 12 [.ref 205, .int x1] [] (hp nS M) Q = if x1 = 45 then am_Wp d 190 60 [.ref 205, .int x1] [] (hp nS M) Q else am_Wp d 190 18 [.ref 205, .int x1] [] (hp nS M) Q := by
  refine (eq_run 2 (q := (15, [.ref 205, .int x1], [.int 45, .int x1], hp nS M)) (by with_unfolding_all rfl)).trans ?_
  exact eq_cmp_eq (by with_unfolding_all rfl)
set_option maxRecDepth 20000 in
theorem b_190_18 {d nS : Nat} {x1 : Int32} {M : am_M} {Q : Option Value → am_H → Prop} : am_Wp d 190 18 [.ref 205, .int x1] [] (hp nS M) Q = if x1 = 42 then am_Wp d 190 60 [.ref 205, .int x1] [] (hp nS M) Q else am_Wp d 190 24 [.ref 205, .int x1] [] (hp nS M) Q := by
  refine (eq_run 2 (q := (21, [.ref 205, .int x1], [.int 42, .int x1], hp nS M)) (by with_unfolding_all rfl)).trans ?_
  exact eq_cmp_eq (by with_unfolding_all rfl)
set_option maxRecDepth 20000 in
theorem b_190_24 {d nS : Nat} {x1 : Int32} {M : am_M} {Q : Option Value → am_H → Prop} : am_Wp d 190 24 [.ref 205, .int x1] [] (hp nS M) Q = if x1 = 47 then am_Wp d 190 60 [.ref 205, .int x1] [] (hp nS M) Q else am_Wp d 190 30 [.ref 205, .int x1] [] (hp nS M) Q := by
  refine (eq_run 2 (q := (27, [.ref 205, .int x1], [.int 47, .int x1], hp nS M)) (by with_unfolding_all rfl)).trans ?_
  exact eq_cmp_eq (by with_unfolding_all rfl)
set_option maxRecDepth 20000 in
theorem b_190_30 {d nS : Nat} {x1 : Int32} {M : am_M} {Q : Option Value → am_H → Prop} : am_Wp d 190 30 [.ref 205, .int x1] [] (hp nS M) Q = if x1 = 40 then am_Wp d 190 60 [.ref 205, .int x1] [] (hp nS M) Q else am_Wp d 190 36 [.ref 205, .int x1] [] (hp nS M) Q := by
  refine (eq_run 2 (q := (33, [.ref 205, .int x1], [.int 40, .int x1], hp nS M)) (by with_unfolding_all rfl)).trans ?_
  exact eq_cmp_eq (by with_unfolding_all rfl)
set_option maxRecDepth 20000 in
theorem b_190_36 {d nS : Nat} {x1 : Int32} {M : am_M} {Q : Option Value → am_H → Prop} : am_Wp d 190 36 [.ref 205, .int x1] [] (hp nS M) Q = if x1 = 41 then am_Wp d 190 60 [.ref 205, .int x1] [] (hp nS M) Q else am_Wp d 190 42 [.ref 205, .int x1] [] (hp nS M) Q := by
  refine (eq_run 2 (q := (39, [.ref 205, .int x1], [.int 41, .int x1], hp nS M)) (by with_unfolding_all rfl)).trans ?_
  exact eq_cmp_eq (by with_unfolding_all rfl)
set_option maxRecDepth 20000 in
theorem b_190_42 {d nS : Nat} {x1 : Int32} {M : am_M} {Q : Option Value → am_H → Prop} : am_Wp d 190 42 [.ref 205, .int x1] [] (hp nS M) Q = if x1 = 60 then am_Wp d 190 60 [.ref 205, .int x1] [] (hp nS M) Q else am_Wp d 190 48 [.ref 205, .int x1] [] (hp nS M) Q := by
  refine (eq_run 2 (q := (45, [.ref 205, .int x1], [.int 60, .int x1], hp nS M)) (by with_unfolding_all rfl)).trans ?_
  exact eq_cmp_eq (by with_unfolding_all rfl)
set_option maxRecDepth 20000 in
theorem b_190_48 {d nS : Nat} {x1 : Int32} {M : am_M} {Q : Option Value → am_H → Prop} : am_Wp d 190 48 [.ref 205, .int x1] [] (hp nS M) Q = if x1 = 61 then am_Wp d 190 60 [.ref 205, .int x1] [] (hp nS M) Q else am_Wp d 190 54 [.ref 205, .int x1] [] (hp nS M) Q := by
  refine (eq_run 2 (q := (51, [.ref 205, .int x1], [.int 61, .int x1], hp nS M)) (by with_unfolding_all rfl)).trans ?_
  exact eq_cmp_eq (by with_unfolding_all rfl)
set_option maxRecDepth 20000 in
theorem b_190_54 {d nS : Nat} {x1 : Int32} {M : am_M} {Q : Option Value → am_H → Prop} : am_Wp d 190 54 [.ref 205, .int x1] [] (hp nS M) Q = if ¬ x1 = 62 then am_Wp d 190 64 [.ref 205, .int x1] [] (hp nS M) Q else am_Wp d 190 60 [.ref 205, .int x1] [] (hp nS M) Q := by
  refine (eq_run 2 (q := (57, [.ref 205, .int x1], [.int 62, .int x1], hp nS M)) (by with_unfolding_all rfl)).trans ?_
  exact eq_cmp_ne (by with_unfolding_all rfl)
set_option maxRecDepth 20000 in
theorem b_190_60 {d nS : Nat} {x1 : Int32} {M : am_M} {Q : Option Value → am_H → Prop} : am_Wp d 190 60 [.ref 205, .int x1] [] (hp nS M) Q = am_Wp d 190 65 [.ref 205, .int x1] [.int 1] (hp nS M) Q := by
  exact eq_run 2 (q := (65, [.ref 205, .int x1], [.int 1], hp nS M)) (by with_unfolding_all rfl)
set_option maxRecDepth 20000 in
theorem b_190_64 {d nS : Nat} {x1 : Int32} {M : am_M} {Q : Option Value → am_H → Prop} : am_Wp d 190 64 [.ref 205, .int x1] [] (hp nS M) Q = am_Wp d 190 65 [.ref 205, .int x1] [.int 0] (hp nS M) Q := by
  exact eq_run 1 (q := (65, [.ref 205, .int x1], [.int 0], hp nS M)) (by with_unfolding_all rfl)
set_option maxRecDepth 20000 in
theorem b_190_65 {d nS : Nat} {x1 s0 : Int32} {M : am_M} {Q : Option Value → am_H → Prop} (h1 : am_rok .boolean s0 = true) : am_Wp d 190 65 [.ref 205, .int x1] [.int s0] (hp nS M) Q = Q (some (.int s0)) (hp nS M) := by
  exact eq_retI2 (e := (.ireturn, 1, 0, 0, 0)) (t := .boolean) (by with_unfolding_all rfl) rfl (by with_unfolding_all rfl) h1
-- readDawns()I
set_option maxRecDepth 20000 in
theorem b_191_0 {d nS : Nat} {M : am_M} {Q : Option Value → am_H → Prop} : am_Wp d 191 0 [.ref 205, .retAddr 0] [] (hp nS M) Q = am_Wp d 191 2 [.ref 205, .int 0] [] (hp nS M) Q := by
  exact eq_run 2 (q := (2, [.ref 205, .int 0], [], hp nS M)) (by with_unfolding_all rfl)
set_option maxRecDepth 20000 in
theorem b_191_2 {d nS : Nat} {x1 : Int32} {M : am_M} {Q : Option Value → am_H → Prop} : am_Wp (d + 1) 191 2 [.ref 205, .int x1] [] (hp nS M) Q = am_Wp d 192 0 [.ref 205, .int 16] [] (hp nS M) (fun v h1 => am_Wp (d + 1) 191 8 [.ref 205, .int x1] (am_ans v []) h1 Q) := by
  refine (eq_run 2 (q := (5, [.ref 205, .int x1], [.int 16, .ref 205], hp nS M)) (by with_unfolding_all rfl)).trans ?_
  exact eq_call2 (e := (.invokevirtual 240, 3, 0, 192, 295)) (as := [.ref 205, .int 16]) (r := []) (n := 2) (m := 2) (by with_unfolding_all rfl) rfl (by decide) (by with_unfolding_all rfl) (by decide) (by with_unfolding_all rfl) ⟨fun _ => am_rec_ok (c := 14) (by with_unfolding_all rfl) (by decide +kernel), fun z => by simp at z⟩
set_option maxRecDepth 20000 in
theorem b_191_8 {d nS : Nat} {x1 s0 : Int32} {M : am_M} {Q : Option Value → am_H → Prop} : am_Wp d 191 8 [.ref 205, .int x1] [.int s0] (hp nS M) Q = if s0 = 0 then am_Wp d 191 46 [.ref 205, .int x1] [] (hp nS M) Q else am_Wp d 191 11 [.ref 205, .int x1] [] (hp nS M) Q := by
  exact eq_if_eq (by with_unfolding_all rfl)
set_option maxRecDepth 20000 in
theorem b_191_11 {d nS : Nat} {x1 : Int32} {M : am_M} {Q : Option Value → am_H → Prop} : am_Wp d 191 11 [.ref 205, .int x1] [] (hp nS M) Q = if ¬ x1 = 16 then am_Wp d 191 23 [.ref 205, .int x1] [] (hp nS M) Q else am_Wp d 191 17 [.ref 205, .int x1] [] (hp nS M) Q := by
  refine (eq_run 2 (q := (14, [.ref 205, .int x1], [.int 16, .int x1], hp nS M)) (by with_unfolding_all rfl)).trans ?_
  exact eq_cmp_ne (by with_unfolding_all rfl)
set_option maxRecDepth 20000 in
theorem b_191_17 {d nS : Nat} {x1 : Int32} {M : am_M} {Q : Option Value → am_H → Prop} : am_Wp (d + 1) 191 17 [.ref 205, .int x1] [] (hp nS M) Q = am_Wp d 193 0 [.ref 205, .int 3] [] (hp nS M) (fun v h1 => am_Wp (d + 1) 191 22 [.ref 205, .int x1] (am_ans v []) h1 Q) := by
  refine (eq_run 2 (q := (19, [.ref 205, .int x1], [.int 3, .ref 205], hp nS M)) (by with_unfolding_all rfl)).trans ?_
  exact eq_call2 (e := (.invokevirtual 211, 3, 0, 193, 288)) (as := [.ref 205, .int 3]) (r := []) (n := 2) (m := 2) (by with_unfolding_all rfl) rfl (by decide) (by with_unfolding_all rfl) (by decide) (by with_unfolding_all rfl) ⟨fun _ => am_rec_ok (c := 14) (by with_unfolding_all rfl) (by decide +kernel), fun z => by simp at z⟩
set_option maxRecDepth 20000 in
theorem b_191_22 {d nS : Nat} {x1 s0 : Int32} {M : am_M} {Q : Option Value → am_H → Prop} : am_Wp d 191 22 [.ref 205, .int x1] [.int s0] (hp nS M) Q = Q (some (.int s0)) (hp nS M) := by
  exact eq_retI2 (e := (.ireturn, 1, 0, 0, 0)) (t := .int) (by with_unfolding_all rfl) rfl (by with_unfolding_all rfl) rfl
set_option maxRecDepth 20000 in
theorem b_191_23 {d nS : Nat} {x1 : Int32} {M : am_M} {Q : Option Value → am_H → Prop} : am_Wp (d + 1) 191 23 [.ref 205, .int x1] [] (hp nS M) Q = am_Wp d 194 0 [.ref 205, .int (64 + (4 * x1)), .retAddr 0] [] (hp nS M) (fun v h1 => am_Wp (d + 1) 191 33 [.ref 205, .int x1] (am_ans v []) h1 Q) := by
  refine (eq_run 6 (q := (30, [.ref 205, .int x1], [.int (64 + (4 * x1)), .ref 205], hp nS M)) (by with_unfolding_all rfl)).trans ?_
  exact eq_call2 (e := (.invokevirtual 275, 3, 0, 194, 305)) (as := [.ref 205, .int (64 + (4 * x1))]) (r := []) (n := 2) (m := 3) (by with_unfolding_all rfl) rfl (by decide) (by with_unfolding_all rfl) (by decide) (by with_unfolding_all rfl) ⟨fun _ => am_rec_ok (c := 14) (by with_unfolding_all rfl) (by decide +kernel), fun z => by simp at z⟩
set_option maxRecDepth 20000 in
theorem b_191_33 {d nS : Nat} {x1 s0 : Int32} {M : am_M} {Q : Option Value → am_H → Prop} : am_Wp d 191 33 [.ref 205, .int x1] [.int s0] (hp nS M) Q = if ¬ s0 = (-1) then am_Wp d 191 39 [.ref 205, .int x1] [] (hp nS M) Q else am_Wp d 191 37 [.ref 205, .int x1] [] (hp nS M) Q := by
  refine (eq_run 1 (q := (34, [.ref 205, .int x1], [.int (-1), .int s0], hp nS M)) (by with_unfolding_all rfl)).trans ?_
  exact eq_cmp_ne (by with_unfolding_all rfl)
set_option maxRecDepth 20000 in
theorem b_191_37 {d nS : Nat} {x1 : Int32} {M : am_M} {Q : Option Value → am_H → Prop} : am_Wp d 191 37 [.ref 205, .int x1] [] (hp nS M) Q = Q (some (.int (-1))) (hp nS M) := by
  refine (eq_run 1 (q := (38, [.ref 205, .int x1], [.int (-1)], hp nS M)) (by with_unfolding_all rfl)).trans ?_
  exact eq_retI2 (e := (.ireturn, 1, 0, 0, 0)) (t := .int) (by with_unfolding_all rfl) rfl (by with_unfolding_all rfl) rfl
set_option maxRecDepth 20000 in
theorem b_191_39 {d nS : Nat} {x1 : Int32} {M : am_M} {Q : Option Value → am_H → Prop} : am_Wp d 191 39 [.ref 205, .int x1] [] (hp nS M) Q = am_Wp d 191 2 [.ref 205, .int (x1 + 1)] [] (hp nS M) Q := by
  exact eq_run 5 (q := (2, [.ref 205, .int (x1 + 1)], [], hp nS M)) (by with_unfolding_all rfl)
set_option maxRecDepth 20000 in
theorem b_191_46 {d nS : Nat} {x1 : Int32} {M : am_M} {Q : Option Value → am_H → Prop} : am_Wp d 191 46 [.ref 205, .int x1] [] (hp nS M) Q = if ¬ (M 205 18) = 0 then am_Wp d 191 57 [.ref 205, .int x1] [] (hp nS M) Q else am_Wp d 191 53 [.ref 205, .int x1] [] (hp nS M) Q := by
  refine (eq_run 2 (q := (50, [.ref 205, .int x1], [.int (M 205 18)], hp nS M)) (by with_unfolding_all rfl)).trans ?_
  exact eq_if_ne (by with_unfolding_all rfl)
set_option maxRecDepth 20000 in
theorem b_191_53 {d nS : Nat} {x1 : Int32} {M : am_M} {Q : Option Value → am_H → Prop} : am_Wp d 191 53 [.ref 205, .int x1] [] (hp nS M) Q = am_Wp d 191 62 [.ref 205, .int x1] [.int x1] (hp nS M) Q := by
  exact eq_run 2 (q := (62, [.ref 205, .int x1], [.int x1], hp nS M)) (by with_unfolding_all rfl)
set_option maxRecDepth 20000 in
theorem b_191_57 {d nS : Nat} {x1 : Int32} {M : am_M} {Q : Option Value → am_H → Prop} : am_Wp (d + 1) 191 57 [.ref 205, .int x1] [] (hp nS M) Q = am_Wp d 193 0 [.ref 205, .int 1] [] (hp nS M) (fun v h1 => am_Wp (d + 1) 191 62 [.ref 205, .int x1] (am_ans v []) h1 Q) := by
  refine (eq_run 2 (q := (59, [.ref 205, .int x1], [.int 1, .ref 205], hp nS M)) (by with_unfolding_all rfl)).trans ?_
  exact eq_call2 (e := (.invokevirtual 211, 3, 0, 193, 288)) (as := [.ref 205, .int 1]) (r := []) (n := 2) (m := 2) (by with_unfolding_all rfl) rfl (by decide) (by with_unfolding_all rfl) (by decide) (by with_unfolding_all rfl) ⟨fun _ => am_rec_ok (c := 14) (by with_unfolding_all rfl) (by decide +kernel), fun z => by simp at z⟩
set_option maxRecDepth 20000 in
theorem b_191_62 {d nS : Nat} {x1 s0 : Int32} {M : am_M} {Q : Option Value → am_H → Prop} : am_Wp d 191 62 [.ref 205, .int x1] [.int s0] (hp nS M) Q = Q (some (.int s0)) (hp nS M) := by
  exact eq_retI2 (e := (.ireturn, 1, 0, 0, 0)) (t := .int) (by with_unfolding_all rfl) rfl (by with_unfolding_all rfl) rfl
-- isWord(I)Z
set_option maxRecDepth 20000 in
theorem b_192_0 {d nS : Nat} {x1 : Int32} {M : am_M} {Q : Option Value → am_H → Prop} : am_Wp d 192 0 [.ref 205, .int x1] [] (hp nS M) Q = if ¬ (M 205 18) = 2 then am_Wp d 192 20 [.ref 205, .int x1] [] (hp nS M) Q else am_Wp d 192 8 [.ref 205, .int x1] [] (hp nS M) Q := by
  refine (eq_run 3 (q := (5, [.ref 205, .int x1], [.int 2, .int (M 205 18)], hp nS M)) (by with_unfolding_all rfl)).trans ?_
  exact eq_cmp_ne (by with_unfolding_all rfl)
set_option maxRecDepth 20000 in
theorem b_192_8 {d nS : Nat} {x1 : Int32} {M : am_M} {Q : Option Value → am_H → Prop} : am_Wp d 192 8 [.ref 205, .int x1] [] (hp nS M) Q = if ¬ (M 205 19) = x1 then am_Wp d 192 20 [.ref 205, .int x1] [] (hp nS M) Q else am_Wp d 192 16 [.ref 205, .int x1] [] (hp nS M) Q := by
  refine (eq_run 3 (q := (13, [.ref 205, .int x1], [.int x1, .int (M 205 19)], hp nS M)) (by with_unfolding_all rfl)).trans ?_
  exact eq_cmp_ne (by with_unfolding_all rfl)
set_option maxRecDepth 20000 in
theorem b_192_16 {d nS : Nat} {x1 : Int32} {M : am_M} {Q : Option Value → am_H → Prop} : am_Wp d 192 16 [.ref 205, .int x1] [] (hp nS M) Q = am_Wp d 192 21 [.ref 205, .int x1] [.int 1] (hp nS M) Q := by
  exact eq_run 2 (q := (21, [.ref 205, .int x1], [.int 1], hp nS M)) (by with_unfolding_all rfl)
set_option maxRecDepth 20000 in
theorem b_192_20 {d nS : Nat} {x1 : Int32} {M : am_M} {Q : Option Value → am_H → Prop} : am_Wp d 192 20 [.ref 205, .int x1] [] (hp nS M) Q = am_Wp d 192 21 [.ref 205, .int x1] [.int 0] (hp nS M) Q := by
  exact eq_run 1 (q := (21, [.ref 205, .int x1], [.int 0], hp nS M)) (by with_unfolding_all rfl)
set_option maxRecDepth 20000 in
theorem b_192_21 {d nS : Nat} {x1 s0 : Int32} {M : am_M} {Q : Option Value → am_H → Prop} (h1 : am_rok .boolean s0 = true) : am_Wp d 192 21 [.ref 205, .int x1] [.int s0] (hp nS M) Q = Q (some (.int s0)) (hp nS M) := by
  exact eq_retI2 (e := (.ireturn, 1, 0, 0, 0)) (t := .boolean) (by with_unfolding_all rfl) rfl (by with_unfolding_all rfl) h1
-- errs(I)I
set_option maxRecDepth 20000 in
theorem b_193_0 {d nS : Nat} {x1 : Int32} {M : am_M} {Q : Option Value → am_H → Prop} : am_Wp d 193 0 [.ref 205, .int x1] [] (hp nS M) Q = Q (some (.int (-1))) (hp nS (am_up (am_up M 205 33 x1) 205 34 ((am_up M 205 33 x1) 205 17))) := by
  refine (eq_run 8 (q := (14, [.ref 205, .int x1], [.int (-1)], hp nS (am_up (am_up M 205 33 x1) 205 34 ((am_up M 205 33 x1) 205 17)))) (by with_unfolding_all rfl)).trans ?_
  exact eq_retI2 (e := (.ireturn, 1, 0, 0, 0)) (t := .int) (by with_unfolding_all rfl) rfl (by with_unfolding_all rfl) rfl
