-- fifths(II)I
set_option maxRecDepth 20000 in
theorem b_278_0 {d nS : Nat} {x1 x2 : Int32} {M : am_M} {Q : Option Value → am_H → Prop} : am_Wp (d + 1) 278 0 [.ref 205, .int x1, .int x2, .retAddr 0, .retAddr 0] [] (hp nS M) Q = am_Wp d 171 0 [.ref 205, .int x1, .int (-12), .int 12] [] (hp nS (am_up M 205 0 0)) (fun v h1 => am_Wp (d + 1) 278 14 [.ref 205, .int x1, .int x2, .retAddr 0, .retAddr 0] (am_ans v []) h1 Q) := by
  refine (eq_run 7 (q := (11, [.ref 205, .int x1, .int x2, .retAddr 0, .retAddr 0], [.int 12, .int (-12), .int x1, .ref 205], hp nS (am_up M 205 0 0))) (by with_unfolding_all rfl)).trans ?_
  exact eq_call2 (e := (.invokevirtual 144, 3, 0, 171, 275)) (as := [.ref 205, .int x1, .int (-12), .int 12]) (r := []) (n := 4) (m := 4) (by with_unfolding_all rfl) rfl (by decide) (by with_unfolding_all rfl) (by decide) (by with_unfolding_all rfl) ⟨fun _ => am_rec_ok (c := 14) (by with_unfolding_all rfl) (by decide +kernel), fun z => by simp at z⟩
set_option maxRecDepth 20000 in
theorem b_278_14 {d nS : Nat} {x1 x2 s0 : Int32} {M : am_M} {Q : Option Value → am_H → Prop} : am_Wp d 278 14 [.ref 205, .int x1, .int x2, .retAddr 0, .retAddr 0] [.int s0] (hp nS M) Q = if s0 = 0 then am_Wp d 278 27 [.ref 205, .int x1, .int x2, .retAddr 0, .retAddr 0] [] (hp nS M) Q else am_Wp d 278 17 [.ref 205, .int x1, .int x2, .retAddr 0, .retAddr 0] [] (hp nS M) Q := by
  exact eq_if_eq (by with_unfolding_all rfl)
set_option maxRecDepth 20000 in
theorem b_278_17 {d nS : Nat} {x1 x2 : Int32} {M : am_M} {Q : Option Value → am_H → Prop} : am_Wp (d + 1) 278 17 [.ref 205, .int x1, .int x2, .retAddr 0, .retAddr 0] [] (hp nS M) Q = am_Wp d 171 0 [.ref 205, .int x2, .int 0, .int 1] [] (hp nS M) (fun v h1 => am_Wp (d + 1) 278 24 [.ref 205, .int x1, .int x2, .retAddr 0, .retAddr 0] (am_ans v []) h1 Q) := by
  refine (eq_run 4 (q := (21, [.ref 205, .int x1, .int x2, .retAddr 0, .retAddr 0], [.int 1, .int 0, .int x2, .ref 205], hp nS M)) (by with_unfolding_all rfl)).trans ?_
  exact eq_call2 (e := (.invokevirtual 144, 3, 0, 171, 275)) (as := [.ref 205, .int x2, .int 0, .int 1]) (r := []) (n := 4) (m := 4) (by with_unfolding_all rfl) rfl (by decide) (by with_unfolding_all rfl) (by decide) (by with_unfolding_all rfl) ⟨fun _ => am_rec_ok (c := 14) (by with_unfolding_all rfl) (by decide +kernel), fun z => by simp at z⟩
set_option maxRecDepth 20000 in
theorem b_278_24 {d nS : Nat} {x1 x2 s0 : Int32} {M : am_M} {Q : Option Value → am_H → Prop} : am_Wp d 278 24 [.ref 205, .int x1, .int x2, .retAddr 0, .retAddr 0] [.int s0] (hp nS M) Q = if ¬ s0 = 0 then am_Wp d 278 29 [.ref 205, .int x1, .int x2, .retAddr 0, .retAddr 0] [] (hp nS M) Q else am_Wp d 278 27 [.ref 205, .int x1, .int x2, .retAddr 0, .retAddr 0] [] (hp nS M) Q := by
  exact eq_if_ne (by with_unfolding_all rfl)
set_option maxRecDepth 20000 in
theorem b_278_27 {d nS : Nat} {x1 x2 : Int32} {M : am_M} {Q : Option Value → am_H → Prop} : am_Wp d 278 27 [.ref 205, .int x1, .int x2, .retAddr 0, .retAddr 0] [] (hp nS M) Q = Q (some (.int (-1))) (hp nS M) := by
  refine (eq_run 1 (q := (28, [.ref 205, .int x1, .int x2, .retAddr 0, .retAddr 0], [.int (-1)], hp nS M)) (by with_unfolding_all rfl)).trans ?_
  exact eq_retI2 (e := (.ireturn, 1, 0, 0, 0)) (t := .int) (by with_unfolding_all rfl) rfl (by with_unfolding_all rfl) rfl
set_option maxRecDepth 20000 in
theorem b_278_29 {d nS : Nat} {x1 x2 : Int32} {M : am_M} {Q : Option Value → am_H → Prop} : am_Wp d 278 29 [.ref 205, .int x1, .int x2, .retAddr 0, .retAddr 0] [] (hp nS M) Q = am_Wp d 278 34 [.ref 205, .int x1, .int x2, .int 1, .int 0] [] (hp nS M) Q := by
  exact eq_run 4 (q := (34, [.ref 205, .int x1, .int x2, .int 1, .int 0], [], hp nS M)) (by with_unfolding_all rfl)
set_option maxRecDepth 20000 in
theorem b_278_34 {d nS : Nat} {x1 x2 x3 x4 : Int32} {M : am_M} {Q : Option Value → am_H → Prop} : am_Wp d 278 34 [.ref 205, .int x1, .int x2, .int x3, .int x4] [] (hp nS M) Q = if 0 ≤ x1 then am_Wp d 278 45 [.ref 205, .int x1, .int x2, .int x3, .int x4] [.int x4] (hp nS M) Q else am_Wp d 278 40 [.ref 205, .int x1, .int x2, .int x3, .int x4] [.int x4] (hp nS M) Q := by
  refine (eq_run 2 (q := (37, [.ref 205, .int x1, .int x2, .int x3, .int x4], [.int x1, .int x4], hp nS M)) (by with_unfolding_all rfl)).trans ?_
  exact eq_if_ge (by with_unfolding_all rfl)
set_option maxRecDepth 20000 in
theorem b_278_40 {d nS : Nat} {x1 x2 x3 x4 s0 : Int32} {M : am_M} {Q : Option Value → am_H → Prop} : am_Wp d 278 40 [.ref 205, .int x1, .int x2, .int x3, .int x4] [.int s0] (hp nS M) Q = am_Wp d 278 46 [.ref 205, .int x1, .int x2, .int x3, .int x4] [.int (-x1), .int s0] (hp nS M) Q := by
  exact eq_run 3 (q := (46, [.ref 205, .int x1, .int x2, .int x3, .int x4], [.int (-x1), .int s0], hp nS M)) (by with_unfolding_all rfl)
set_option maxRecDepth 20000 in
theorem b_278_45 {d nS : Nat} {x1 x2 x3 x4 s0 : Int32} {M : am_M} {Q : Option Value → am_H → Prop} : am_Wp d 278 45 [.ref 205, .int x1, .int x2, .int x3, .int x4] [.int s0] (hp nS M) Q = am_Wp d 278 46 [.ref 205, .int x1, .int x2, .int x3, .int x4] [.int x1, .int s0] (hp nS M) Q := by
  exact eq_run 1 (q := (46, [.ref 205, .int x1, .int x2, .int x3, .int x4], [.int x1, .int s0], hp nS M)) (by with_unfolding_all rfl)
set_option maxRecDepth 20000 in
theorem b_278_46 {d nS : Nat} {x1 x2 x3 x4 s0 s1 : Int32} {M : am_M} {Q : Option Value → am_H → Prop} : am_Wp d 278 46 [.ref 205, .int x1, .int x2, .int x3, .int x4] [.int s1, .int s0] (hp nS M) Q = if s1 ≤ s0 then am_Wp d 278 59 [.ref 205, .int x1, .int x2, .int x3, .int x4] [] (hp nS M) Q else am_Wp d 278 49 [.ref 205, .int x1, .int x2, .int x3, .int x4] [] (hp nS M) Q := by
  exact eq_cmp_ge (by with_unfolding_all rfl)
set_option maxRecDepth 20000 in
theorem b_278_49 {d nS : Nat} {x1 x2 x3 x4 : Int32} {M : am_M} {Q : Option Value → am_H → Prop} : am_Wp d 278 49 [.ref 205, .int x1, .int x2, .int x3, .int x4] [] (hp nS M) Q = am_Wp d 278 34 [.ref 205, .int x1, .int x2, .int (x3 * 3), .int (x4 + 1)] [] (hp nS M) Q := by
  exact eq_run 6 (q := (34, [.ref 205, .int x1, .int x2, .int (x3 * 3), .int (x4 + 1)], [], hp nS M)) (by with_unfolding_all rfl)
set_option maxRecDepth 20000 in
theorem b_278_59 {d nS : Nat} {x1 x2 x3 x4 : Int32} {M : am_M} {Q : Option Value → am_H → Prop} : am_Wp d 278 59 [.ref 205, .int x1, .int x2, .int x3, .int x4] [] (hp nS M) Q = am_Wp d 278 62 [.ref 205, .int x1, .int x2, .int x3, .int 1] [] (hp nS M) Q := by
  exact eq_run 2 (q := (62, [.ref 205, .int x1, .int x2, .int x3, .int 1], [], hp nS M)) (by with_unfolding_all rfl)
set_option maxRecDepth 20000 in
theorem b_278_62 {d nS : Nat} {x1 x2 x3 x4 : Int32} {M : am_M} {Q : Option Value → am_H → Prop} : am_Wp d 278 62 [.ref 205, .int x1, .int x2, .int x3, .int x4] [] (hp nS M) Q = if 0 ≤ x1 then am_Wp d 278 75 [.ref 205, .int x1, .int x2, .int x3, .int x4] [] (hp nS M) Q else am_Wp d 278 66 [.ref 205, .int x1, .int x2, .int x3, .int x4] [] (hp nS M) Q := by
  refine (eq_run 1 (q := (63, [.ref 205, .int x1, .int x2, .int x3, .int x4], [.int x1], hp nS M)) (by with_unfolding_all rfl)).trans ?_
  exact eq_if_ge (by with_unfolding_all rfl)
set_option maxRecDepth 20000 in
theorem b_278_66 {d nS : Nat} {x1 x2 x3 x4 : Int32} {M : am_M} {Q : Option Value → am_H → Prop} : am_Wp d 278 66 [.ref 205, .int x1, .int x2, .int x3, .int x4] [] (hp nS M) Q = if x3 ≤ x4 then am_Wp d 278 92 [.ref 205, .int x1, .int x2, .int x3, .int x4] [] (hp nS M) Q else am_Wp d 278 72 [.ref 205, .int x1, .int x2, .int x3, .int x4] [] (hp nS M) Q := by
  refine (eq_run 2 (q := (69, [.ref 205, .int x1, .int x2, .int x3, .int x4], [.int x3, .int x4], hp nS M)) (by with_unfolding_all rfl)).trans ?_
  exact eq_cmp_ge (by with_unfolding_all rfl)
set_option maxRecDepth 20000 in
theorem b_278_72 {d nS : Nat} {x1 x2 x3 x4 : Int32} {M : am_M} {Q : Option Value → am_H → Prop} : am_Wp d 278 72 [.ref 205, .int x1, .int x2, .int x3, .int x4] [] (hp nS M) Q = am_Wp d 278 83 [.ref 205, .int x1, .int x2, .int x3, .int x4] [] (hp nS M) Q := by
  exact eq_run 1 (q := (83, [.ref 205, .int x1, .int x2, .int x3, .int x4], [], hp nS M)) (by with_unfolding_all rfl)
set_option maxRecDepth 20000 in
theorem b_278_75 {d nS : Nat} {x1 x2 x3 x4 : Int32} {M : am_M} {Q : Option Value → am_H → Prop} : am_Wp d 278 75 [.ref 205, .int x1, .int x2, .int x3, .int x4] [] (hp nS M) Q = if x3 < (2 * x4) then am_Wp d 278 92 [.ref 205, .int x1, .int x2, .int x3, .int x4] [] (hp nS M) Q else am_Wp d 278 83 [.ref 205, .int x1, .int x2, .int x3, .int x4] [] (hp nS M) Q := by
  refine (eq_run 4 (q := (80, [.ref 205, .int x1, .int x2, .int x3, .int x4], [.int x3, .int (2 * x4)], hp nS M)) (by with_unfolding_all rfl)).trans ?_
  exact eq_cmp_gt (by with_unfolding_all rfl)
set_option maxRecDepth 20000 in
theorem b_278_83 {d nS : Nat} {x1 x2 x3 x4 : Int32} {M : am_M} {Q : Option Value → am_H → Prop} : am_Wp d 278 83 [.ref 205, .int x1, .int x2, .int x3, .int x4] [] (hp nS M) Q = am_Wp d 278 62 [.ref 205, .int x1, .int x2, .int x3, .int (2 * x4)] [] (hp nS M) Q := by
  exact eq_run 5 (q := (62, [.ref 205, .int x1, .int x2, .int x3, .int (2 * x4)], [], hp nS M)) (by with_unfolding_all rfl)
set_option maxRecDepth 20000 in
theorem b_278_92 {d nS : Nat} {x1 x2 x3 x4 : Int32} {M : am_M} {Q : Option Value → am_H → Prop} : am_Wp d 278 92 [.ref 205, .int x1, .int x2, .int x3, .int x4] [] (hp nS M) Q = if 0 ≤ x1 then am_Wp d 278 100 [.ref 205, .int x1, .int x2, .int x3, .int x4] [] (hp nS M) Q else am_Wp d 278 96 [.ref 205, .int x1, .int x2, .int x3, .int x4] [] (hp nS M) Q := by
  refine (eq_run 1 (q := (93, [.ref 205, .int x1, .int x2, .int x3, .int x4], [.int x1], hp nS M)) (by with_unfolding_all rfl)).trans ?_
  exact eq_if_ge (by with_unfolding_all rfl)
set_option maxRecDepth 20000 in
theorem b_278_96 {d nS : Nat} {x1 x2 x3 x4 : Int32} {M : am_M} {Q : Option Value → am_H → Prop} : am_Wp d 278 96 [.ref 205, .int x1, .int x2, .int x3, .int x4] [] (hp nS M) Q = am_Wp d 278 101 [.ref 205, .int x1, .int x2, .int x3, .int x4] [.int 1] (hp nS M) Q := by
  exact eq_run 2 (q := (101, [.ref 205, .int x1, .int x2, .int x3, .int x4], [.int 1], hp nS M)) (by with_unfolding_all rfl)
set_option maxRecDepth 20000 in
theorem b_278_100 {d nS : Nat} {x1 x2 x3 x4 : Int32} {M : am_M} {Q : Option Value → am_H → Prop} : am_Wp d 278 100 [.ref 205, .int x1, .int x2, .int x3, .int x4] [] (hp nS M) Q = am_Wp d 278 101 [.ref 205, .int x1, .int x2, .int x3, .int x4] [.int 0] (hp nS M) Q := by
  exact eq_run 1 (q := (101, [.ref 205, .int x1, .int x2, .int x3, .int x4], [.int 0], hp nS M)) (by with_unfolding_all rfl)
set_option maxRecDepth 20000 in
theorem b_278_101 {d nS : Nat} {x1 x2 x3 x4 s0 : Int32} {M : am_M} {Q : Option Value → am_H → Prop} : am_Wp d 278 101 [.ref 205, .int x1, .int x2, .int x3, .int x4] [.int s0] (hp nS M) Q = if ¬ x2 = 0 then am_Wp d 278 109 [.ref 205, .int x1, .int x2, .int x3, .int x4] [.int s0] (hp nS M) Q else am_Wp d 278 105 [.ref 205, .int x1, .int x2, .int x3, .int x4] [.int s0] (hp nS M) Q := by
  refine (eq_run 1 (q := (102, [.ref 205, .int x1, .int x2, .int x3, .int x4], [.int x2, .int s0], hp nS M)) (by with_unfolding_all rfl)).trans ?_
  exact eq_if_ne (by with_unfolding_all rfl)
set_option maxRecDepth 20000 in
theorem b_278_105 {d nS : Nat} {x1 x2 x3 x4 s0 : Int32} {M : am_M} {Q : Option Value → am_H → Prop} : am_Wp d 278 105 [.ref 205, .int x1, .int x2, .int x3, .int x4] [.int s0] (hp nS M) Q = am_Wp d 278 110 [.ref 205, .int x1, .int x2, .int x3, .int x4] [.int 1, .int s0] (hp nS M) Q := by
  exact eq_run 2 (q := (110, [.ref 205, .int x1, .int x2, .int x3, .int x4], [.int 1, .int s0], hp nS M)) (by with_unfolding_all rfl)
set_option maxRecDepth 20000 in
theorem b_278_109 {d nS : Nat} {x1 x2 x3 x4 s0 : Int32} {M : am_M} {Q : Option Value → am_H → Prop} : am_Wp d 278 109 [.ref 205, .int x1, .int x2, .int x3, .int x4] [.int s0] (hp nS M) Q = am_Wp d 278 110 [.ref 205, .int x1, .int x2, .int x3, .int x4] [.int 0, .int s0] (hp nS M) Q := by
  exact eq_run 1 (q := (110, [.ref 205, .int x1, .int x2, .int x3, .int x4], [.int 0, .int s0], hp nS M)) (by with_unfolding_all rfl)
set_option maxRecDepth 20000 in
theorem b_278_110 {d nS : Nat} {x1 x2 x3 x4 s0 s1 : Int32} {M : am_M} {Q : Option Value → am_H → Prop} : am_Wp d 278 110 [.ref 205, .int x1, .int x2, .int x3, .int x4] [.int s1, .int s0] (hp nS M) Q = if ¬ s0 = s1 then am_Wp d 278 118 [.ref 205, .int x1, .int x2, .int x3, .int x4] [] (hp nS M) Q else am_Wp d 278 113 [.ref 205, .int x1, .int x2, .int x3, .int x4] [] (hp nS M) Q := by
  exact eq_cmp_ne (by with_unfolding_all rfl)
set_option maxRecDepth 20000 in
theorem b_278_113 {d nS : Nat} {x1 x2 x3 x4 : Int32} {M : am_M} {Q : Option Value → am_H → Prop} : am_Wp d 278 113 [.ref 205, .int x1, .int x2, .int x3, .int x4] [] (hp nS M) Q = am_Wp d 278 119 [.ref 205, .int x1, .int x2, .int x3, .int x4] [.int x4] (hp nS M) Q := by
  exact eq_run 2 (q := (119, [.ref 205, .int x1, .int x2, .int x3, .int x4], [.int x4], hp nS M)) (by with_unfolding_all rfl)
set_option maxRecDepth 20000 in
theorem b_278_118 {d nS : Nat} {x1 x2 x3 x4 : Int32} {M : am_M} {Q : Option Value → am_H → Prop} : am_Wp d 278 118 [.ref 205, .int x1, .int x2, .int x3, .int x4] [] (hp nS M) Q = am_Wp d 278 119 [.ref 205, .int x1, .int x2, .int x3, .int x4] [.int x3] (hp nS M) Q := by
  exact eq_run 1 (q := (119, [.ref 205, .int x1, .int x2, .int x3, .int x4], [.int x3], hp nS M)) (by with_unfolding_all rfl)
set_option maxRecDepth 20000 in
theorem b_278_119 {d nS : Nat} {x1 x2 x3 x4 s0 : Int32} {M : am_M} {Q : Option Value → am_H → Prop} : am_Wp d 278 119 [.ref 205, .int x1, .int x2, .int x3, .int x4] [.int s0] (hp nS M) Q = Q (some (.int s0)) (hp nS M) := by
  exact eq_retI2 (e := (.ireturn, 1, 0, 0, 0)) (t := .int) (by with_unfolding_all rfl) rfl (by with_unfolding_all rfl) rfl
-- way(II)I
set_option maxRecDepth 20000 in
theorem b_279_0 {d nS : Nat} {x1 x2 : Int32} {M : am_M} {Q : Option Value → am_H → Prop} : am_Wp d 279 0 [.ref 205, .int x1, .int x2, .retAddr 0] [] (hp nS M) Q = if ¬ x1 = (-1) then am_Wp d 279 38 [.ref 205, .int x1, .int x2, .retAddr 0] [] (hp nS (am_up M 205 0 0)) Q else am_Wp d 279 10 [.ref 205, .int x1, .int x2, .retAddr 0] [] (hp nS (am_up M 205 0 0)) Q := by
  refine (eq_run 5 (q := (7, [.ref 205, .int x1, .int x2, .retAddr 0], [.int (-1), .int x1], hp nS (am_up M 205 0 0))) (by with_unfolding_all rfl)).trans ?_
  exact eq_cmp_ne (by with_unfolding_all rfl)
set_option maxRecDepth 20000 in
theorem b_279_10 {d nS : Nat} {x1 x2 : Int32} {M : am_M} {Q : Option Value → am_H → Prop} : am_Wp d 279 10 [.ref 205, .int x1, .int x2, .retAddr 0] [] (hp nS M) Q = am_Wp d 279 17 [.ref 205, .int x1, .int x2, .int 0] [] (hp nS (am_up M 205 51 0)) Q := by
  exact eq_run 5 (q := (17, [.ref 205, .int x1, .int x2, .int 0], [], hp nS (am_up M 205 51 0))) (by with_unfolding_all rfl)
set_option maxRecDepth 20000 in
theorem b_279_17 {d nS : Nat} {x1 x2 x3 : Int32} {M : am_M} {Q : Option Value → am_H → Prop} : am_Wp d 279 17 [.ref 205, .int x1, .int x2, .int x3] [] (hp nS M) Q = if 8 ≤ x3 then am_Wp d 279 36 [.ref 205, .int x1, .int x2, .int x3] [] (hp nS M) Q else am_Wp d 279 23 [.ref 205, .int x1, .int x2, .int x3] [] (hp nS M) Q := by
  refine (eq_run 2 (q := (20, [.ref 205, .int x1, .int x2, .int x3], [.int 8, .int x3], hp nS M)) (by with_unfolding_all rfl)).trans ?_
  exact eq_cmp_ge (by with_unfolding_all rfl)
set_option maxRecDepth 20000 in
theorem b_279_23 {d nS : Nat} {x1 x2 x3 : Int32} {M : am_M} {Q : Option Value → am_H → Prop} (h1 : vp_in x3 8) : am_Wp d 279 23 [.ref 205, .int x1, .int x2, .int x3] [] (hp nS M) Q = am_Wp d 279 17 [.ref 205, .int x1, .int x2, .int (x3 + 1)] [] (hp nS (am_up M 232 x3.toNatClampNeg 0)) Q := by
  refine (eq_run 4 (q := (29, [.ref 205, .int x1, .int x2, .int x3], [.int 0, .int x3, .ref 232], hp nS M)) (by with_unfolding_all rfl)).trans ?_
  refine (eq_ast (e := (.iastore, 1, 0, 0, 0)) (by with_unfolding_all rfl) rfl (n := 8) (by with_unfolding_all rfl) (by decide) h1).trans ?_
  exact eq_run 2 (q := (17, [.ref 205, .int x1, .int x2, .int (x3 + 1)], [], hp nS (am_up M 232 x3.toNatClampNeg 0))) (by with_unfolding_all rfl)
set_option maxRecDepth 20000 in
theorem b_279_36 {d nS : Nat} {x1 x2 x3 : Int32} {M : am_M} {Q : Option Value → am_H → Prop} : am_Wp d 279 36 [.ref 205, .int x1, .int x2, .int x3] [] (hp nS M) Q = Q (some (.int 0)) (hp nS M) := by
  refine (eq_run 1 (q := (37, [.ref 205, .int x1, .int x2, .int x3], [.int 0], hp nS M)) (by with_unfolding_all rfl)).trans ?_
  exact eq_retI2 (e := (.ireturn, 1, 0, 0, 0)) (t := .int) (by with_unfolding_all rfl) rfl (by with_unfolding_all rfl) rfl
set_option maxRecDepth 20000 in
theorem b_279_38 {d nS : Nat} {x1 x2 : Int32} {M : am_M} {Q : Option Value → am_H → Prop} : am_Wp (d + 1) 279 38 [.ref 205, .int x1, .int x2, .retAddr 0] [] (hp nS M) Q = am_Wp d 171 0 [.ref 205, .int x1, .int 0, .int 7] [] (hp nS M) (fun v h1 => am_Wp (d + 1) 279 46 [.ref 205, .int x1, .int x2, .retAddr 0] (am_ans v []) h1 Q) := by
  refine (eq_run 4 (q := (43, [.ref 205, .int x1, .int x2, .retAddr 0], [.int 7, .int 0, .int x1, .ref 205], hp nS M)) (by with_unfolding_all rfl)).trans ?_
  exact eq_call2 (e := (.invokevirtual 144, 3, 0, 171, 275)) (as := [.ref 205, .int x1, .int 0, .int 7]) (r := []) (n := 4) (m := 4) (by with_unfolding_all rfl) rfl (by decide) (by with_unfolding_all rfl) (by decide) (by with_unfolding_all rfl) ⟨fun _ => am_rec_ok (c := 14) (by with_unfolding_all rfl) (by decide +kernel), fun z => by simp at z⟩
set_option maxRecDepth 20000 in
theorem b_279_46 {d nS : Nat} {x1 x2 s0 : Int32} {M : am_M} {Q : Option Value → am_H → Prop} : am_Wp d 279 46 [.ref 205, .int x1, .int x2, .retAddr 0] [.int s0] (hp nS M) Q = if s0 = 0 then am_Wp d 279 74 [.ref 205, .int x1, .int x2, .retAddr 0] [] (hp nS M) Q else am_Wp d 279 49 [.ref 205, .int x1, .int x2, .retAddr 0] [] (hp nS M) Q := by
  exact eq_if_eq (by with_unfolding_all rfl)
set_option maxRecDepth 20000 in
theorem b_279_49 {d nS : Nat} {x1 x2 : Int32} {M : am_M} {Q : Option Value → am_H → Prop} : am_Wp (d + 1) 279 49 [.ref 205, .int x1, .int x2, .retAddr 0] [] (hp nS M) Q = am_Wp d 171 0 [.ref 205, .int x2, .int 0, .int 7] [] (hp nS M) (fun v h1 => am_Wp (d + 1) 279 57 [.ref 205, .int x1, .int x2, .retAddr 0] (am_ans v []) h1 Q) := by
  refine (eq_run 4 (q := (54, [.ref 205, .int x1, .int x2, .retAddr 0], [.int 7, .int 0, .int x2, .ref 205], hp nS M)) (by with_unfolding_all rfl)).trans ?_
  exact eq_call2 (e := (.invokevirtual 144, 3, 0, 171, 275)) (as := [.ref 205, .int x2, .int 0, .int 7]) (r := []) (n := 4) (m := 4) (by with_unfolding_all rfl) rfl (by decide) (by with_unfolding_all rfl) (by decide) (by with_unfolding_all rfl) ⟨fun _ => am_rec_ok (c := 14) (by with_unfolding_all rfl) (by decide +kernel), fun z => by simp at z⟩
set_option maxRecDepth 20000 in
theorem b_279_57 {d nS : Nat} {x1 x2 s0 : Int32} {M : am_M} {Q : Option Value → am_H → Prop} : am_Wp d 279 57 [.ref 205, .int x1, .int x2, .retAddr 0] [.int s0] (hp nS M) Q = if s0 = 0 then am_Wp d 279 74 [.ref 205, .int x1, .int x2, .retAddr 0] [] (hp nS M) Q else am_Wp d 279 60 [.ref 205, .int x1, .int x2, .retAddr 0] [] (hp nS M) Q := by
  exact eq_if_eq (by with_unfolding_all rfl)
set_option maxRecDepth 20000 in
theorem b_279_60 {d nS : Nat} {x1 x2 : Int32} {M : am_M} {Q : Option Value → am_H → Prop} : am_Wp d 279 60 [.ref 205, .int x1, .int x2, .retAddr 0] [] (hp nS M) Q = if x1 = x2 then am_Wp d 279 74 [.ref 205, .int x1, .int x2, .retAddr 0] [] (hp nS M) Q else am_Wp d 279 65 [.ref 205, .int x1, .int x2, .retAddr 0] [] (hp nS M) Q := by
  refine (eq_run 2 (q := (62, [.ref 205, .int x1, .int x2, .retAddr 0], [.int x2, .int x1], hp nS M)) (by with_unfolding_all rfl)).trans ?_
  exact eq_cmp_eq (by with_unfolding_all rfl)
set_option maxRecDepth 20000 in
theorem b_279_65 {d nS : Nat} {x1 x2 : Int32} {M : am_M} {Q : Option Value → am_H → Prop} : am_Wp d 279 65 [.ref 205, .int x1, .int x2, .retAddr 0] [] (hp nS M) Q = if ¬ (M 205 51) = 14 then am_Wp d 279 76 [.ref 205, .int x1, .int x2, .retAddr 0] [] (hp nS M) Q else am_Wp d 279 74 [.ref 205, .int x1, .int x2, .retAddr 0] [] (hp nS M) Q := by
  refine (eq_run 3 (q := (71, [.ref 205, .int x1, .int x2, .retAddr 0], [.int 14, .int (M 205 51)], hp nS M)) (by with_unfolding_all rfl)).trans ?_
  exact eq_cmp_ne (by with_unfolding_all rfl)
set_option maxRecDepth 20000 in
theorem b_279_74 {d nS : Nat} {x1 x2 : Int32} {M : am_M} {Q : Option Value → am_H → Prop} : am_Wp d 279 74 [.ref 205, .int x1, .int x2, .retAddr 0] [] (hp nS M) Q = Q (some (.int (-1))) (hp nS M) := by
  refine (eq_run 1 (q := (75, [.ref 205, .int x1, .int x2, .retAddr 0], [.int (-1)], hp nS M)) (by with_unfolding_all rfl)).trans ?_
  exact eq_retI2 (e := (.ireturn, 1, 0, 0, 0)) (t := .int) (by with_unfolding_all rfl) rfl (by with_unfolding_all rfl) rfl
set_option maxRecDepth 20000 in
theorem b_279_76 {d nS : Nat} {x1 x2 : Int32} {M : am_M} {Q : Option Value → am_H → Prop} (h1 : vp_in x1 8) (h2 : vp_in x1 8) (h3 : vp_in x2 8) (h4 : vp_in x2 8) : am_Wp d 279 76 [.ref 205, .int x1, .int x2, .retAddr 0] [] (hp nS M) Q = Q (some (.int ((am_up (am_up (am_up M 232 x1.toNatClampNeg ((M 232 x1.toNatClampNeg) ||| (1 <<< (x2 &&& 31)))) 232 x2.toNatClampNeg (((am_up M 232 x1.toNatClampNeg ((M 232 x1.toNatClampNeg) ||| (1 <<< (x2 &&& 31)))) 232 x2.toNatClampNeg) ||| (1 <<< (x1 &&& 31)))) 205 51 (((am_up (am_up M 232 x1.toNatClampNeg ((M 232 x1.toNatClampNeg) ||| (1 <<< (x2 &&& 31)))) 232 x2.toNatClampNeg (((am_up M 232 x1.toNatClampNeg ((M 232 x1.toNatClampNeg) ||| (1 <<< (x2 &&& 31)))) 232 x2.toNatClampNeg) ||| (1 <<< (x1 &&& 31)))) 205 51) + 1)) 205 51))) (hp nS (am_up (am_up (am_up M 232 x1.toNatClampNeg ((M 232 x1.toNatClampNeg) ||| (1 <<< (x2 &&& 31)))) 232 x2.toNatClampNeg (((am_up M 232 x1.toNatClampNeg ((M 232 x1.toNatClampNeg) ||| (1 <<< (x2 &&& 31)))) 232 x2.toNatClampNeg) ||| (1 <<< (x1 &&& 31)))) 205 51 (((am_up (am_up M 232 x1.toNatClampNeg ((M 232 x1.toNatClampNeg) ||| (1 <<< (x2 &&& 31)))) 232 x2.toNatClampNeg (((am_up M 232 x1.toNatClampNeg ((M 232 x1.toNatClampNeg) ||| (1 <<< (x2 &&& 31)))) 232 x2.toNatClampNeg) ||| (1 <<< (x1 &&& 31)))) 205 51) + 1))) := by
  refine (eq_run 6 (q := (86, [.ref 205, .int x1, .int x2, .retAddr 0], [.int x1, .ref 232, .int x1, .ref 232], hp nS M)) (by with_unfolding_all rfl)).trans ?_
  refine (eq_ald (e := (.iaload, 1, 0, 0, 0)) (by with_unfolding_all rfl) rfl (n := 8) (by with_unfolding_all rfl) h1).trans ?_
  refine (eq_run 4 (q := (91, [.ref 205, .int x1, .int x2, .retAddr 0], [.int ((M 232 x1.toNatClampNeg) ||| (1 <<< (x2 &&& 31))), .int x1, .ref 232], hp nS M)) (by with_unfolding_all rfl)).trans ?_
  refine (eq_ast (e := (.iastore, 1, 0, 0, 0)) (by with_unfolding_all rfl) rfl (n := 8) (by with_unfolding_all rfl) (by decide) h2).trans ?_
  refine (eq_run 6 (q := (102, [.ref 205, .int x1, .int x2, .retAddr 0], [.int x2, .ref 232, .int x2, .ref 232], hp nS (am_up M 232 x1.toNatClampNeg ((M 232 x1.toNatClampNeg) ||| (1 <<< (x2 &&& 31)))))) (by with_unfolding_all rfl)).trans ?_
  refine (eq_ald (e := (.iaload, 1, 0, 0, 0)) (by with_unfolding_all rfl) rfl (n := 8) (by with_unfolding_all rfl) h3).trans ?_
  refine (eq_run 4 (q := (107, [.ref 205, .int x1, .int x2, .retAddr 0], [.int (((am_up M 232 x1.toNatClampNeg ((M 232 x1.toNatClampNeg) ||| (1 <<< (x2 &&& 31)))) 232 x2.toNatClampNeg) ||| (1 <<< (x1 &&& 31))), .int x2, .ref 232], hp nS (am_up M 232 x1.toNatClampNeg ((M 232 x1.toNatClampNeg) ||| (1 <<< (x2 &&& 31)))))) (by with_unfolding_all rfl)).trans ?_
  refine (eq_ast (e := (.iastore, 1, 0, 0, 0)) (by with_unfolding_all rfl) rfl (n := 8) (by with_unfolding_all rfl) (by decide) h4).trans ?_
  refine (eq_run 8 (q := (122, [.ref 205, .int x1, .int x2, .retAddr 0], [.int ((am_up (am_up (am_up M 232 x1.toNatClampNeg ((M 232 x1.toNatClampNeg) ||| (1 <<< (x2 &&& 31)))) 232 x2.toNatClampNeg (((am_up M 232 x1.toNatClampNeg ((M 232 x1.toNatClampNeg) ||| (1 <<< (x2 &&& 31)))) 232 x2.toNatClampNeg) ||| (1 <<< (x1 &&& 31)))) 205 51 (((am_up (am_up M 232 x1.toNatClampNeg ((M 232 x1.toNatClampNeg) ||| (1 <<< (x2 &&& 31)))) 232 x2.toNatClampNeg (((am_up M 232 x1.toNatClampNeg ((M 232 x1.toNatClampNeg) ||| (1 <<< (x2 &&& 31)))) 232 x2.toNatClampNeg) ||| (1 <<< (x1 &&& 31)))) 205 51) + 1)) 205 51)], hp nS (am_up (am_up (am_up M 232 x1.toNatClampNeg ((M 232 x1.toNatClampNeg) ||| (1 <<< (x2 &&& 31)))) 232 x2.toNatClampNeg (((am_up M 232 x1.toNatClampNeg ((M 232 x1.toNatClampNeg) ||| (1 <<< (x2 &&& 31)))) 232 x2.toNatClampNeg) ||| (1 <<< (x1 &&& 31)))) 205 51 (((am_up (am_up M 232 x1.toNatClampNeg ((M 232 x1.toNatClampNeg) ||| (1 <<< (x2 &&& 31)))) 232 x2.toNatClampNeg (((am_up M 232 x1.toNatClampNeg ((M 232 x1.toNatClampNeg) ||| (1 <<< (x2 &&& 31)))) 232 x2.toNatClampNeg) ||| (1 <<< (x1 &&& 31)))) 205 51) + 1)))) (by with_unfolding_all rfl)).trans ?_
  exact eq_retI2 (e := (.ireturn, 1, 0, 0, 0)) (t := .int) (by with_unfolding_all rfl) rfl (by with_unfolding_all rfl) rfl
-- caught(II)I
set_option maxRecDepth 20000 in
theorem b_280_0 {d nS : Nat} {x1 x2 : Int32} {M : am_M} {Q : Option Value → am_H → Prop} : am_Wp (d + 1) 280 0 [.ref 205, .int x1, .int x2, .retAddr 0, .retAddr 0, .retAddr 0] [] (hp nS M) Q = am_Wp d 171 0 [.ref 205, .int x1, .int 0, .int 7] [] (hp nS (am_up M 205 0 0)) (fun v h1 => am_Wp (d + 1) 280 13 [.ref 205, .int x1, .int x2, .retAddr 0, .retAddr 0, .retAddr 0] (am_ans v []) h1 Q) := by
  refine (eq_run 7 (q := (10, [.ref 205, .int x1, .int x2, .retAddr 0, .retAddr 0, .retAddr 0], [.int 7, .int 0, .int x1, .ref 205], hp nS (am_up M 205 0 0))) (by with_unfolding_all rfl)).trans ?_
  exact eq_call2 (e := (.invokevirtual 144, 3, 0, 171, 275)) (as := [.ref 205, .int x1, .int 0, .int 7]) (r := []) (n := 4) (m := 4) (by with_unfolding_all rfl) rfl (by decide) (by with_unfolding_all rfl) (by decide) (by with_unfolding_all rfl) ⟨fun _ => am_rec_ok (c := 14) (by with_unfolding_all rfl) (by decide +kernel), fun z => by simp at z⟩
set_option maxRecDepth 20000 in
theorem b_280_13 {d nS : Nat} {x1 x2 s0 : Int32} {M : am_M} {Q : Option Value → am_H → Prop} : am_Wp d 280 13 [.ref 205, .int x1, .int x2, .retAddr 0, .retAddr 0, .retAddr 0] [.int s0] (hp nS M) Q = if s0 = 0 then am_Wp d 280 27 [.ref 205, .int x1, .int x2, .retAddr 0, .retAddr 0, .retAddr 0] [] (hp nS M) Q else am_Wp d 280 16 [.ref 205, .int x1, .int x2, .retAddr 0, .retAddr 0, .retAddr 0] [] (hp nS M) Q := by
  exact eq_if_eq (by with_unfolding_all rfl)
set_option maxRecDepth 20000 in
theorem b_280_16 {d nS : Nat} {x1 x2 : Int32} {M : am_M} {Q : Option Value → am_H → Prop} : am_Wp (d + 1) 280 16 [.ref 205, .int x1, .int x2, .retAddr 0, .retAddr 0, .retAddr 0] [] (hp nS M) Q = am_Wp d 171 0 [.ref 205, .int x2, .int 0, .int 7] [] (hp nS M) (fun v h1 => am_Wp (d + 1) 280 24 [.ref 205, .int x1, .int x2, .retAddr 0, .retAddr 0, .retAddr 0] (am_ans v []) h1 Q) := by
  refine (eq_run 4 (q := (21, [.ref 205, .int x1, .int x2, .retAddr 0, .retAddr 0, .retAddr 0], [.int 7, .int 0, .int x2, .ref 205], hp nS M)) (by with_unfolding_all rfl)).trans ?_
  exact eq_call2 (e := (.invokevirtual 144, 3, 0, 171, 275)) (as := [.ref 205, .int x2, .int 0, .int 7]) (r := []) (n := 4) (m := 4) (by with_unfolding_all rfl) rfl (by decide) (by with_unfolding_all rfl) (by decide) (by with_unfolding_all rfl) ⟨fun _ => am_rec_ok (c := 14) (by with_unfolding_all rfl) (by decide +kernel), fun z => by simp at z⟩
set_option maxRecDepth 20000 in
theorem b_280_24 {d nS : Nat} {x1 x2 s0 : Int32} {M : am_M} {Q : Option Value → am_H → Prop} : am_Wp d 280 24 [.ref 205, .int x1, .int x2, .retAddr 0, .retAddr 0, .retAddr 0] [.int s0] (hp nS M) Q = if ¬ s0 = 0 then am_Wp d 280 29 [.ref 205, .int x1, .int x2, .retAddr 0, .retAddr 0, .retAddr 0] [] (hp nS M) Q else am_Wp d 280 27 [.ref 205, .int x1, .int x2, .retAddr 0, .retAddr 0, .retAddr 0] [] (hp nS M) Q := by
  exact eq_if_ne (by with_unfolding_all rfl)
set_option maxRecDepth 20000 in
theorem b_280_27 {d nS : Nat} {x1 x2 : Int32} {M : am_M} {Q : Option Value → am_H → Prop} : am_Wp d 280 27 [.ref 205, .int x1, .int x2, .retAddr 0, .retAddr 0, .retAddr 0] [] (hp nS M) Q = Q (some (.int (-1))) (hp nS M) := by
  refine (eq_run 1 (q := (28, [.ref 205, .int x1, .int x2, .retAddr 0, .retAddr 0, .retAddr 0], [.int (-1)], hp nS M)) (by with_unfolding_all rfl)).trans ?_
  exact eq_retI2 (e := (.ireturn, 1, 0, 0, 0)) (t := .int) (by with_unfolding_all rfl) rfl (by with_unfolding_all rfl) rfl
set_option maxRecDepth 20000 in
theorem b_280_29 {d nS : Nat} {x1 x2 : Int32} {M : am_M} {Q : Option Value → am_H → Prop} : am_Wp d 280 29 [.ref 205, .int x1, .int x2, .retAddr 0, .retAddr 0, .retAddr 0] [] (hp nS M) Q = am_Wp d 280 31 [.ref 205, .int x1, .int x2, .int 0, .retAddr 0, .retAddr 0] [] (hp nS M) Q := by
  exact eq_run 2 (q := (31, [.ref 205, .int x1, .int x2, .int 0, .retAddr 0, .retAddr 0], [], hp nS M)) (by with_unfolding_all rfl)
set_option maxRecDepth 20000 in
theorem b_280_31 {d nS : Nat} {x1 x2 x3 : Int32} {M : am_M} {Q : Option Value → am_H → Prop} : am_Wp d 280 31 [.ref 205, .int x1, .int x2, .int x3, .retAddr 0, .retAddr 0] [] (hp nS M) Q = if 64 ≤ x3 then am_Wp d 280 63 [.ref 205, .int x1, .int x2, .int x3, .retAddr 0, .retAddr 0] [] (hp nS M) Q else am_Wp d 280 37 [.ref 205, .int x1, .int x2, .int x3, .retAddr 0, .retAddr 0] [] (hp nS M) Q := by
  refine (eq_run 2 (q := (34, [.ref 205, .int x1, .int x2, .int x3, .retAddr 0, .retAddr 0], [.int 64, .int x3], hp nS M)) (by with_unfolding_all rfl)).trans ?_
  exact eq_cmp_ge (by with_unfolding_all rfl)
set_option maxRecDepth 20000 in
theorem b_280_37 {d nS : Nat} {x1 x2 x3 : Int32} {M : am_M} {Q : Option Value → am_H → Prop} : am_Wp d 280 37 [.ref 205, .int x1, .int x2, .int x3, .retAddr 0, .retAddr 0] [] (hp nS M) Q = if ¬ (x3 - x3 / 9 * 9) = 0 then am_Wp d 280 53 [.ref 205, .int x1, .int x2, .int x3, .retAddr 0, .retAddr 0] [.int x3, .ref 233] (hp nS M) Q else am_Wp d 280 49 [.ref 205, .int x1, .int x2, .int x3, .retAddr 0, .retAddr 0] [.int x3, .ref 233] (hp nS M) Q := by
  refine (eq_run 6 (q := (46, [.ref 205, .int x1, .int x2, .int x3, .retAddr 0, .retAddr 0], [.int (x3 - x3 / 9 * 9), .int x3, .ref 233], hp nS M)) (by with_unfolding_all rfl)).trans ?_
  exact eq_if_ne (by with_unfolding_all rfl)
set_option maxRecDepth 20000 in
theorem b_280_49 {d nS : Nat} {x1 x2 x3 s1 : Int32} {M : am_M} {Q : Option Value → am_H → Prop} : am_Wp d 280 49 [.ref 205, .int x1, .int x2, .int x3, .retAddr 0, .retAddr 0] [.int s1, .ref 233] (hp nS M) Q = am_Wp d 280 56 [.ref 205, .int x1, .int x2, .int x3, .retAddr 0, .retAddr 0] [.int 0, .int s1, .ref 233] (hp nS M) Q := by
  exact eq_run 2 (q := (56, [.ref 205, .int x1, .int x2, .int x3, .retAddr 0, .retAddr 0], [.int 0, .int s1, .ref 233], hp nS M)) (by with_unfolding_all rfl)
set_option maxRecDepth 20000 in
theorem b_280_53 {d nS : Nat} {x1 x2 x3 s1 : Int32} {M : am_M} {Q : Option Value → am_H → Prop} : am_Wp d 280 53 [.ref 205, .int x1, .int x2, .int x3, .retAddr 0, .retAddr 0] [.int s1, .ref 233] (hp nS M) Q = am_Wp d 280 56 [.ref 205, .int x1, .int x2, .int x3, .retAddr 0, .retAddr 0] [.int 100000000, .int s1, .ref 233] (hp nS M) Q := by
  exact eq_run 1 (q := (56, [.ref 205, .int x1, .int x2, .int x3, .retAddr 0, .retAddr 0], [.int 100000000, .int s1, .ref 233], hp nS M)) (by with_unfolding_all rfl)
set_option maxRecDepth 20000 in
theorem b_280_56 {d nS : Nat} {x1 x2 x3 s1 s2 : Int32} {M : am_M} {Q : Option Value → am_H → Prop} (h1 : vp_in s1 64) : am_Wp d 280 56 [.ref 205, .int x1, .int x2, .int x3, .retAddr 0, .retAddr 0] [.int s2, .int s1, .ref 233] (hp nS M) Q = am_Wp d 280 31 [.ref 205, .int x1, .int x2, .int (x3 + 1), .retAddr 0, .retAddr 0] [] (hp nS (am_up M 233 s1.toNatClampNeg s2)) Q := by
  refine (eq_ast (e := (.iastore, 1, 0, 0, 0)) (by with_unfolding_all rfl) rfl (n := 64) (by with_unfolding_all rfl) (by decide) h1).trans ?_
  exact eq_run 2 (q := (31, [.ref 205, .int x1, .int x2, .int (x3 + 1), .retAddr 0, .retAddr 0], [], hp nS (am_up M 233 s1.toNatClampNeg s2))) (by with_unfolding_all rfl)
set_option maxRecDepth 20000 in
theorem b_280_63 {d nS : Nat} {x1 x2 x3 : Int32} {M : am_M} {Q : Option Value → am_H → Prop} : am_Wp d 280 63 [.ref 205, .int x1, .int x2, .int x3, .retAddr 0, .retAddr 0] [] (hp nS M) Q = am_Wp d 280 68 [.ref 205, .int x1, .int x2, .int 1, .int 1, .retAddr 0] [] (hp nS M) Q := by
  exact eq_run 4 (q := (68, [.ref 205, .int x1, .int x2, .int 1, .int 1, .retAddr 0], [], hp nS M)) (by with_unfolding_all rfl)
set_option maxRecDepth 20000 in
theorem b_280_68 {d nS : Nat} {x1 x2 x3 x4 : Int32} {zx5 : Value} {M : am_M} {Q : Option Value → am_H → Prop} : am_Wp d 280 68 [.ref 205, .int x1, .int x2, .int x3, .int x4, zx5] [] (hp nS M) Q = if x3 = 0 then am_Wp d 280 142 [.ref 205, .int x1, .int x2, .int x3, .int x4, zx5] [] (hp nS M) Q else am_Wp d 280 72 [.ref 205, .int x1, .int x2, .int x3, .int x4, zx5] [] (hp nS M) Q := by
  refine (eq_run 1 (q := (69, [.ref 205, .int x1, .int x2, .int x3, .int x4, zx5], [.int x3], hp nS M)) (by with_unfolding_all rfl)).trans ?_
  exact eq_if_eq (by with_unfolding_all rfl)
set_option maxRecDepth 20000 in
theorem b_280_72 {d nS : Nat} {x1 x2 x3 x4 : Int32} {zx5 : Value} {M : am_M} {Q : Option Value → am_H → Prop} : am_Wp d 280 72 [.ref 205, .int x1, .int x2, .int x3, .int x4, zx5] [] (hp nS M) Q = am_Wp d 280 77 [.ref 205, .int x1, .int x2, .int 0, .int x4, .int 0] [] (hp nS M) Q := by
  exact eq_run 4 (q := (77, [.ref 205, .int x1, .int x2, .int 0, .int x4, .int 0], [], hp nS M)) (by with_unfolding_all rfl)
set_option maxRecDepth 20000 in
theorem b_280_77 {d nS : Nat} {x1 x2 x3 x4 x5 : Int32} {M : am_M} {Q : Option Value → am_H → Prop} : am_Wp d 280 77 [.ref 205, .int x1, .int x2, .int x3, .int x4, .int x5] [] (hp nS M) Q = if 64 ≤ x5 then am_Wp d 280 136 [.ref 205, .int x1, .int x2, .int x3, .int x4, .int x5] [] (hp nS M) Q else am_Wp d 280 84 [.ref 205, .int x1, .int x2, .int x3, .int x4, .int x5] [] (hp nS M) Q := by
  refine (eq_run 2 (q := (81, [.ref 205, .int x1, .int x2, .int x3, .int x4, .int x5], [.int 64, .int x5], hp nS M)) (by with_unfolding_all rfl)).trans ?_
  exact eq_cmp_ge (by with_unfolding_all rfl)
set_option maxRecDepth 20000 in
theorem b_280_84 {d nS : Nat} {x1 x2 x3 x4 x5 : Int32} {M : am_M} {Q : Option Value → am_H → Prop} (h1 : vp_in x5 64) : am_Wp d 280 84 [.ref 205, .int x1, .int x2, .int x3, .int x4, .int x5] [] (hp nS M) Q = if (M 233 x5.toNatClampNeg) < 100000000 then am_Wp d 280 130 [.ref 205, .int x1, .int x2, .int x3, .int x4, .int x5] [] (hp nS M) Q else am_Wp d 280 97 [.ref 205, .int x1, .int x2, .int x3, .int x4, .int x5] [] (hp nS M) Q := by
  refine (eq_run 3 (q := (90, [.ref 205, .int x1, .int x2, .int x3, .int x4, .int x5], [.int x5, .ref 233], hp nS M)) (by with_unfolding_all rfl)).trans ?_
  refine (eq_ald (e := (.iaload, 1, 0, 0, 0)) (by with_unfolding_all rfl) rfl (n := 64) (by with_unfolding_all rfl) h1).trans ?_
  refine (eq_run 1 (q := (94, [.ref 205, .int x1, .int x2, .int x3, .int x4, .int x5], [.int 100000000, .int (M 233 x5.toNatClampNeg)], hp nS M)) (by with_unfolding_all rfl)).trans ?_
  exact eq_cmp_lt (by with_unfolding_all rfl)
set_option maxRecDepth 20000 in
theorem b_280_97 {d nS : Nat} {x1 x2 x3 x4 x5 : Int32} {M : am_M} {Q : Option Value → am_H → Prop} : am_Wp (d + 1) 280 97 [.ref 205, .int x1, .int x2, .int x3, .int x4, .int x5] [] (hp nS M) Q = am_Wp d 281 0 [.ref 205, .int (x5 / 8), .int (x5 - x5 / 8 * 8), .int x4, .retAddr 0, .retAddr 0, .retAddr 0] [] (hp nS M) (fun v h1 => am_Wp (d + 1) 280 113 [.ref 205, .int x1, .int x2, .int x3, .int x4, .int x5] (am_ans v []) h1 Q) := by
  refine (eq_run 8 (q := (110, [.ref 205, .int x1, .int x2, .int x3, .int x4, .int x5], [.int x4, .int (x5 - x5 / 8 * 8), .int (x5 / 8), .ref 205], hp nS M)) (by with_unfolding_all rfl)).trans ?_
  exact eq_call2 (e := (.invokevirtual 451, 3, 0, 281, 356)) (as := [.ref 205, .int (x5 / 8), .int (x5 - x5 / 8 * 8), .int x4]) (r := []) (n := 4) (m := 7) (by with_unfolding_all rfl) rfl (by decide) (by with_unfolding_all rfl) (by decide) (by with_unfolding_all rfl) ⟨fun _ => am_rec_ok (c := 14) (by with_unfolding_all rfl) (by decide +kernel), fun z => by simp at z⟩
set_option maxRecDepth 20000 in
theorem b_280_113 {d nS : Nat} {x1 x2 x3 x4 x5 s0 : Int32} {M : am_M} {Q : Option Value → am_H → Prop} : am_Wp d 280 113 [.ref 205, .int x1, .int x2, .int x3, .int x4, .int x5] [.int s0] (hp nS M) Q = if ¬ s0 = 0 then am_Wp d 280 119 [.ref 205, .int x1, .int x2, .int x3, .int x4, .int x5] [] (hp nS M) Q else am_Wp d 280 116 [.ref 205, .int x1, .int x2, .int x3, .int x4, .int x5] [] (hp nS M) Q := by
  exact eq_if_ne (by with_unfolding_all rfl)
set_option maxRecDepth 20000 in
theorem b_280_116 {d nS : Nat} {x1 x2 x3 x4 x5 : Int32} {M : am_M} {Q : Option Value → am_H → Prop} : am_Wp d 280 116 [.ref 205, .int x1, .int x2, .int x3, .int x4, .int x5] [] (hp nS M) Q = am_Wp d 280 130 [.ref 205, .int x1, .int x2, .int x3, .int x4, .int x5] [] (hp nS M) Q := by
  exact eq_run 1 (q := (130, [.ref 205, .int x1, .int x2, .int x3, .int x4, .int x5], [], hp nS M)) (by with_unfolding_all rfl)
set_option maxRecDepth 20000 in
theorem b_280_119 {d nS : Nat} {x1 x2 x3 x4 x5 : Int32} {M : am_M} {Q : Option Value → am_H → Prop} (h1 : vp_in x5 64) : am_Wp d 280 119 [.ref 205, .int x1, .int x2, .int x3, .int x4, .int x5] [] (hp nS M) Q = am_Wp d 280 130 [.ref 205, .int x1, .int x2, .int 1, .int x4, .int x5] [] (hp nS (am_up M 233 x5.toNatClampNeg x4)) Q := by
  refine (eq_run 4 (q := (127, [.ref 205, .int x1, .int x2, .int x3, .int x4, .int x5], [.int x4, .int x5, .ref 233], hp nS M)) (by with_unfolding_all rfl)).trans ?_
  refine (eq_ast (e := (.iastore, 1, 0, 0, 0)) (by with_unfolding_all rfl) rfl (n := 64) (by with_unfolding_all rfl) (by decide) h1).trans ?_
  exact eq_run 2 (q := (130, [.ref 205, .int x1, .int x2, .int 1, .int x4, .int x5], [], hp nS (am_up M 233 x5.toNatClampNeg x4))) (by with_unfolding_all rfl)
set_option maxRecDepth 20000 in
theorem b_280_130 {d nS : Nat} {x1 x2 x3 x4 x5 : Int32} {M : am_M} {Q : Option Value → am_H → Prop} : am_Wp d 280 130 [.ref 205, .int x1, .int x2, .int x3, .int x4, .int x5] [] (hp nS M) Q = am_Wp d 280 77 [.ref 205, .int x1, .int x2, .int x3, .int x4, .int (x5 + 1)] [] (hp nS M) Q := by
  exact eq_run 2 (q := (77, [.ref 205, .int x1, .int x2, .int x3, .int x4, .int (x5 + 1)], [], hp nS M)) (by with_unfolding_all rfl)
set_option maxRecDepth 20000 in
theorem b_280_136 {d nS : Nat} {x1 x2 x3 x4 x5 : Int32} {M : am_M} {Q : Option Value → am_H → Prop} : am_Wp d 280 136 [.ref 205, .int x1, .int x2, .int x3, .int x4, .int x5] [] (hp nS M) Q = am_Wp d 280 68 [.ref 205, .int x1, .int x2, .int x3, .int (x4 + 1), .int x5] [] (hp nS M) Q := by
  exact eq_run 2 (q := (68, [.ref 205, .int x1, .int x2, .int x3, .int (x4 + 1), .int x5], [], hp nS M)) (by with_unfolding_all rfl)
set_option maxRecDepth 20000 in
theorem b_280_142 {d nS : Nat} {x1 x2 x3 x4 : Int32} {zx5 : Value} {M : am_M} {Q : Option Value → am_H → Prop} (h1 : vp_in ((8 * x1) + x2) 64) : am_Wp d 280 142 [.ref 205, .int x1, .int x2, .int x3, .int x4, zx5] [] (hp nS M) Q = if ¬ (M 233 ((8 * x1) + x2).toNatClampNeg) = 100000000 then am_Wp d 280 163 [.ref 205, .int x1, .int x2, .int x3, .int x4, zx5] [] (hp nS M) Q else am_Wp d 280 159 [.ref 205, .int x1, .int x2, .int x3, .int x4, zx5] [] (hp nS M) Q := by
  refine (eq_run 7 (q := (152, [.ref 205, .int x1, .int x2, .int x3, .int x4, zx5], [.int ((8 * x1) + x2), .ref 233], hp nS M)) (by with_unfolding_all rfl)).trans ?_
  refine (eq_ald (e := (.iaload, 1, 0, 0, 0)) (by with_unfolding_all rfl) rfl (n := 64) (by with_unfolding_all rfl) h1).trans ?_
  refine (eq_run 1 (q := (156, [.ref 205, .int x1, .int x2, .int x3, .int x4, zx5], [.int 100000000, .int (M 233 ((8 * x1) + x2).toNatClampNeg)], hp nS M)) (by with_unfolding_all rfl)).trans ?_
  exact eq_cmp_ne (by with_unfolding_all rfl)
set_option maxRecDepth 20000 in
theorem b_280_159 {d nS : Nat} {x1 x2 x3 x4 : Int32} {zx5 : Value} {M : am_M} {Q : Option Value → am_H → Prop} : am_Wp d 280 159 [.ref 205, .int x1, .int x2, .int x3, .int x4, zx5] [] (hp nS M) Q = am_Wp d 280 174 [.ref 205, .int x1, .int x2, .int x3, .int x4, zx5] [.int (-1)] (hp nS M) Q := by
  exact eq_run 2 (q := (174, [.ref 205, .int x1, .int x2, .int x3, .int x4, zx5], [.int (-1)], hp nS M)) (by with_unfolding_all rfl)
set_option maxRecDepth 20000 in
theorem b_280_163 {d nS : Nat} {x1 x2 x3 x4 : Int32} {zx5 : Value} {M : am_M} {Q : Option Value → am_H → Prop} (h1 : vp_in ((8 * x1) + x2) 64) : am_Wp d 280 163 [.ref 205, .int x1, .int x2, .int x3, .int x4, zx5] [] (hp nS M) Q = am_Wp d 280 174 [.ref 205, .int x1, .int x2, .int x3, .int x4, zx5] [.int (M 233 ((8 * x1) + x2).toNatClampNeg)] (hp nS M) Q := by
  refine (eq_run 7 (q := (173, [.ref 205, .int x1, .int x2, .int x3, .int x4, zx5], [.int ((8 * x1) + x2), .ref 233], hp nS M)) (by with_unfolding_all rfl)).trans ?_
  exact eq_ald (e := (.iaload, 1, 0, 0, 0)) (by with_unfolding_all rfl) rfl (n := 64) (by with_unfolding_all rfl) h1
set_option maxRecDepth 20000 in
theorem b_280_174 {d nS : Nat} {x1 x2 x3 x4 s0 : Int32} {zx5 : Value} {M : am_M} {Q : Option Value → am_H → Prop} : am_Wp d 280 174 [.ref 205, .int x1, .int x2, .int x3, .int x4, zx5] [.int s0] (hp nS M) Q = Q (some (.int s0)) (hp nS M) := by
  exact eq_retI2 (e := (.ireturn, 1, 0, 0, 0)) (t := .int) (by with_unfolding_all rfl) rfl (by with_unfolding_all rfl) rfl
-- isCaughtWithin(III)Z
set_option maxRecDepth 20000 in
theorem b_281_0 {d nS : Nat} {x1 x2 x3 : Int32} {M : am_M} {Q : Option Value → am_H → Prop} : am_Wp d 281 0 [.ref 205, .int x1, .int x2, .int x3, .retAddr 0, .retAddr 0, .retAddr 0] [] (hp nS M) Q = am_Wp d 281 3 [.ref 205, .int x1, .int x2, .int x3, .int 0, .retAddr 0, .retAddr 0] [] (hp nS M) Q := by
  exact eq_run 2 (q := (3, [.ref 205, .int x1, .int x2, .int x3, .int 0, .retAddr 0, .retAddr 0], [], hp nS M)) (by with_unfolding_all rfl)
set_option maxRecDepth 20000 in
theorem b_281_3 {d nS : Nat} {x1 x2 x3 x4 : Int32} {zx5 zx6 : Value} {M : am_M} {Q : Option Value → am_H → Prop} : am_Wp d 281 3 [.ref 205, .int x1, .int x2, .int x3, .int x4, zx5, zx6] [] (hp nS M) Q = if 8 ≤ x4 then am_Wp d 281 93 [.ref 205, .int x1, .int x2, .int x3, .int x4, zx5, zx6] [] (hp nS M) Q else am_Wp d 281 10 [.ref 205, .int x1, .int x2, .int x3, .int x4, zx5, zx6] [] (hp nS M) Q := by
  refine (eq_run 2 (q := (7, [.ref 205, .int x1, .int x2, .int x3, .int x4, zx5, zx6], [.int 8, .int x4], hp nS M)) (by with_unfolding_all rfl)).trans ?_
  exact eq_cmp_ge (by with_unfolding_all rfl)
set_option maxRecDepth 20000 in
theorem b_281_10 {d nS : Nat} {x1 x2 x3 x4 : Int32} {zx5 zx6 : Value} {M : am_M} {Q : Option Value → am_H → Prop} : am_Wp (d + 1) 281 10 [.ref 205, .int x1, .int x2, .int x3, .int x4, zx5, zx6] [] (hp nS M) Q = am_Wp d 282 0 [.ref 205, .int x1, .int x4] [] (hp nS M) (fun v h1 => am_Wp (d + 1) 281 17 [.ref 205, .int x1, .int x2, .int x3, .int x4, zx5, zx6] (am_ans v []) h1 Q) := by
  refine (eq_run 3 (q := (14, [.ref 205, .int x1, .int x2, .int x3, .int x4, zx5, zx6], [.int x4, .int x1, .ref 205], hp nS M)) (by with_unfolding_all rfl)).trans ?_
  exact eq_call2 (e := (.invokevirtual 448, 3, 0, 282, 355)) (as := [.ref 205, .int x1, .int x4]) (r := []) (n := 3) (m := 3) (by with_unfolding_all rfl) rfl (by decide) (by with_unfolding_all rfl) (by decide) (by with_unfolding_all rfl) ⟨fun _ => am_rec_ok (c := 14) (by with_unfolding_all rfl) (by decide +kernel), fun z => by simp at z⟩
set_option maxRecDepth 20000 in
theorem b_281_17 {d nS : Nat} {x1 x2 x3 x4 s0 : Int32} {zx5 zx6 : Value} {M : am_M} {Q : Option Value → am_H → Prop} : am_Wp d 281 17 [.ref 205, .int x1, .int x2, .int x3, .int x4, zx5, zx6] [.int s0] (hp nS M) Q = if ¬ s0 = 0 then am_Wp d 281 23 [.ref 205, .int x1, .int x2, .int x3, .int x4, zx5, zx6] [] (hp nS M) Q else am_Wp d 281 20 [.ref 205, .int x1, .int x2, .int x3, .int x4, zx5, zx6] [] (hp nS M) Q := by
  exact eq_if_ne (by with_unfolding_all rfl)
set_option maxRecDepth 20000 in
theorem b_281_20 {d nS : Nat} {x1 x2 x3 x4 : Int32} {zx5 zx6 : Value} {M : am_M} {Q : Option Value → am_H → Prop} : am_Wp d 281 20 [.ref 205, .int x1, .int x2, .int x3, .int x4, zx5, zx6] [] (hp nS M) Q = am_Wp d 281 87 [.ref 205, .int x1, .int x2, .int x3, .int x4, zx5, zx6] [] (hp nS M) Q := by
  exact eq_run 1 (q := (87, [.ref 205, .int x1, .int x2, .int x3, .int x4, zx5, zx6], [], hp nS M)) (by with_unfolding_all rfl)
set_option maxRecDepth 20000 in
theorem b_281_23 {d nS : Nat} {x1 x2 x3 x4 : Int32} {zx5 zx6 : Value} {M : am_M} {Q : Option Value → am_H → Prop} : am_Wp d 281 23 [.ref 205, .int x1, .int x2, .int x3, .int x4, zx5, zx6] [] (hp nS M) Q = if ¬ x4 = x2 then am_Wp d 281 31 [.ref 205, .int x1, .int x2, .int x3, .int x4, zx5, zx6] [] (hp nS M) Q else am_Wp d 281 29 [.ref 205, .int x1, .int x2, .int x3, .int x4, zx5, zx6] [] (hp nS M) Q := by
  refine (eq_run 2 (q := (26, [.ref 205, .int x1, .int x2, .int x3, .int x4, zx5, zx6], [.int x2, .int x4], hp nS M)) (by with_unfolding_all rfl)).trans ?_
  exact eq_cmp_ne (by with_unfolding_all rfl)
set_option maxRecDepth 20000 in
theorem b_281_29 {d nS : Nat} {x1 x2 x3 x4 : Int32} {zx5 zx6 : Value} {M : am_M} {Q : Option Value → am_H → Prop} : am_Wp d 281 29 [.ref 205, .int x1, .int x2, .int x3, .int x4, zx5, zx6] [] (hp nS M) Q = Q (some (.int 1)) (hp nS M) := by
  refine (eq_run 1 (q := (30, [.ref 205, .int x1, .int x2, .int x3, .int x4, zx5, zx6], [.int 1], hp nS M)) (by with_unfolding_all rfl)).trans ?_
  exact eq_retI2 (e := (.ireturn, 1, 0, 0, 0)) (t := .boolean) (by with_unfolding_all rfl) rfl (by with_unfolding_all rfl) rfl
set_option maxRecDepth 20000 in
theorem b_281_31 {d nS : Nat} {x1 x2 x3 x4 : Int32} {zx5 zx6 : Value} {M : am_M} {Q : Option Value → am_H → Prop} : am_Wp d 281 31 [.ref 205, .int x1, .int x2, .int x3, .int x4, zx5, zx6] [] (hp nS M) Q = am_Wp d 281 37 [.ref 205, .int x1, .int x2, .int x3, .int x4, .int 1, .int 0] [] (hp nS M) Q := by
  exact eq_run 4 (q := (37, [.ref 205, .int x1, .int x2, .int x3, .int x4, .int 1, .int 0], [], hp nS M)) (by with_unfolding_all rfl)
set_option maxRecDepth 20000 in
theorem b_281_37 {d nS : Nat} {x1 x2 x3 x4 x5 x6 : Int32} {M : am_M} {Q : Option Value → am_H → Prop} : am_Wp d 281 37 [.ref 205, .int x1, .int x2, .int x3, .int x4, .int x5, .int x6] [] (hp nS M) Q = if 8 ≤ x6 then am_Wp d 281 80 [.ref 205, .int x1, .int x2, .int x3, .int x4, .int x5, .int x6] [] (hp nS M) Q else am_Wp d 281 44 [.ref 205, .int x1, .int x2, .int x3, .int x4, .int x5, .int x6] [] (hp nS M) Q := by
  refine (eq_run 2 (q := (41, [.ref 205, .int x1, .int x2, .int x3, .int x4, .int x5, .int x6], [.int 8, .int x6], hp nS M)) (by with_unfolding_all rfl)).trans ?_
  exact eq_cmp_ge (by with_unfolding_all rfl)
set_option maxRecDepth 20000 in
theorem b_281_44 {d nS : Nat} {x1 x2 x3 x4 x5 x6 : Int32} {M : am_M} {Q : Option Value → am_H → Prop} : am_Wp (d + 1) 281 44 [.ref 205, .int x1, .int x2, .int x3, .int x4, .int x5, .int x6] [] (hp nS M) Q = am_Wp d 282 0 [.ref 205, .int x2, .int x6] [] (hp nS M) (fun v h1 => am_Wp (d + 1) 281 51 [.ref 205, .int x1, .int x2, .int x3, .int x4, .int x5, .int x6] (am_ans v []) h1 Q) := by
  refine (eq_run 3 (q := (48, [.ref 205, .int x1, .int x2, .int x3, .int x4, .int x5, .int x6], [.int x6, .int x2, .ref 205], hp nS M)) (by with_unfolding_all rfl)).trans ?_
  exact eq_call2 (e := (.invokevirtual 448, 3, 0, 282, 355)) (as := [.ref 205, .int x2, .int x6]) (r := []) (n := 3) (m := 3) (by with_unfolding_all rfl) rfl (by decide) (by with_unfolding_all rfl) (by decide) (by with_unfolding_all rfl) ⟨fun _ => am_rec_ok (c := 14) (by with_unfolding_all rfl) (by decide +kernel), fun z => by simp at z⟩
set_option maxRecDepth 20000 in
theorem b_281_51 {d nS : Nat} {x1 x2 x3 x4 x5 x6 s0 : Int32} {M : am_M} {Q : Option Value → am_H → Prop} : am_Wp d 281 51 [.ref 205, .int x1, .int x2, .int x3, .int x4, .int x5, .int x6] [.int s0] (hp nS M) Q = if s0 = 0 then am_Wp d 281 74 [.ref 205, .int x1, .int x2, .int x3, .int x4, .int x5, .int x6] [] (hp nS M) Q else am_Wp d 281 54 [.ref 205, .int x1, .int x2, .int x3, .int x4, .int x5, .int x6] [] (hp nS M) Q := by
  exact eq_if_eq (by with_unfolding_all rfl)
set_option maxRecDepth 20000 in
theorem b_281_54 {d nS : Nat} {x1 x2 x3 x4 x5 x6 : Int32} {M : am_M} {Q : Option Value → am_H → Prop} (h1 : vp_in ((8 * x4) + x6) 64) : am_Wp d 281 54 [.ref 205, .int x1, .int x2, .int x3, .int x4, .int x5, .int x6] [] (hp nS M) Q = if (M 233 ((8 * x4) + x6).toNatClampNeg) < x3 then am_Wp d 281 74 [.ref 205, .int x1, .int x2, .int x3, .int x4, .int x5, .int x6] [] (hp nS M) Q else am_Wp d 281 71 [.ref 205, .int x1, .int x2, .int x3, .int x4, .int x5, .int x6] [] (hp nS M) Q := by
  refine (eq_run 7 (q := (66, [.ref 205, .int x1, .int x2, .int x3, .int x4, .int x5, .int x6], [.int ((8 * x4) + x6), .ref 233], hp nS M)) (by with_unfolding_all rfl)).trans ?_
  refine (eq_ald (e := (.iaload, 1, 0, 0, 0)) (by with_unfolding_all rfl) rfl (n := 64) (by with_unfolding_all rfl) h1).trans ?_
  refine (eq_run 1 (q := (68, [.ref 205, .int x1, .int x2, .int x3, .int x4, .int x5, .int x6], [.int x3, .int (M 233 ((8 * x4) + x6).toNatClampNeg)], hp nS M)) (by with_unfolding_all rfl)).trans ?_
  exact eq_cmp_lt (by with_unfolding_all rfl)
set_option maxRecDepth 20000 in
theorem b_281_71 {d nS : Nat} {x1 x2 x3 x4 x5 x6 : Int32} {M : am_M} {Q : Option Value → am_H → Prop} : am_Wp d 281 71 [.ref 205, .int x1, .int x2, .int x3, .int x4, .int x5, .int x6] [] (hp nS M) Q = am_Wp d 281 74 [.ref 205, .int x1, .int x2, .int x3, .int x4, .int 0, .int x6] [] (hp nS M) Q := by
  exact eq_run 2 (q := (74, [.ref 205, .int x1, .int x2, .int x3, .int x4, .int 0, .int x6], [], hp nS M)) (by with_unfolding_all rfl)
set_option maxRecDepth 20000 in
theorem b_281_74 {d nS : Nat} {x1 x2 x3 x4 x5 x6 : Int32} {M : am_M} {Q : Option Value → am_H → Prop} : am_Wp d 281 74 [.ref 205, .int x1, .int x2, .int x3, .int x4, .int x5, .int x6] [] (hp nS M) Q = am_Wp d 281 37 [.ref 205, .int x1, .int x2, .int x3, .int x4, .int x5, .int (x6 + 1)] [] (hp nS M) Q := by
  exact eq_run 2 (q := (37, [.ref 205, .int x1, .int x2, .int x3, .int x4, .int x5, .int (x6 + 1)], [], hp nS M)) (by with_unfolding_all rfl)
set_option maxRecDepth 20000 in
theorem b_281_80 {d nS : Nat} {x1 x2 x3 x4 x5 x6 : Int32} {M : am_M} {Q : Option Value → am_H → Prop} : am_Wp d 281 80 [.ref 205, .int x1, .int x2, .int x3, .int x4, .int x5, .int x6] [] (hp nS M) Q = if x5 = 0 then am_Wp d 281 87 [.ref 205, .int x1, .int x2, .int x3, .int x4, .int x5, .int x6] [] (hp nS M) Q else am_Wp d 281 85 [.ref 205, .int x1, .int x2, .int x3, .int x4, .int x5, .int x6] [] (hp nS M) Q := by
  refine (eq_run 1 (q := (82, [.ref 205, .int x1, .int x2, .int x3, .int x4, .int x5, .int x6], [.int x5], hp nS M)) (by with_unfolding_all rfl)).trans ?_
  exact eq_if_eq (by with_unfolding_all rfl)
set_option maxRecDepth 20000 in
theorem b_281_85 {d nS : Nat} {x1 x2 x3 x4 x5 x6 : Int32} {M : am_M} {Q : Option Value → am_H → Prop} : am_Wp d 281 85 [.ref 205, .int x1, .int x2, .int x3, .int x4, .int x5, .int x6] [] (hp nS M) Q = Q (some (.int 1)) (hp nS M) := by
  refine (eq_run 1 (q := (86, [.ref 205, .int x1, .int x2, .int x3, .int x4, .int x5, .int x6], [.int 1], hp nS M)) (by with_unfolding_all rfl)).trans ?_
  exact eq_retI2 (e := (.ireturn, 1, 0, 0, 0)) (t := .boolean) (by with_unfolding_all rfl) rfl (by with_unfolding_all rfl) rfl
set_option maxRecDepth 20000 in
theorem b_281_87 {d nS : Nat} {x1 x2 x3 x4 : Int32} {zx5 zx6 : Value} {M : am_M} {Q : Option Value → am_H → Prop} : am_Wp d 281 87 [.ref 205, .int x1, .int x2, .int x3, .int x4, zx5, zx6] [] (hp nS M) Q = am_Wp d 281 3 [.ref 205, .int x1, .int x2, .int x3, .int (x4 + 1), zx5, zx6] [] (hp nS M) Q := by
  exact eq_run 2 (q := (3, [.ref 205, .int x1, .int x2, .int x3, .int (x4 + 1), zx5, zx6], [], hp nS M)) (by with_unfolding_all rfl)
set_option maxRecDepth 20000 in
theorem b_281_93 {d nS : Nat} {x1 x2 x3 x4 : Int32} {zx5 zx6 : Value} {M : am_M} {Q : Option Value → am_H → Prop} : am_Wp d 281 93 [.ref 205, .int x1, .int x2, .int x3, .int x4, zx5, zx6] [] (hp nS M) Q = Q (some (.int 0)) (hp nS M) := by
  refine (eq_run 1 (q := (94, [.ref 205, .int x1, .int x2, .int x3, .int x4, zx5, zx6], [.int 0], hp nS M)) (by with_unfolding_all rfl)).trans ?_
  exact eq_retI2 (e := (.ireturn, 1, 0, 0, 0)) (t := .boolean) (by with_unfolding_all rfl) rfl (by with_unfolding_all rfl) rfl
-- canGo(II)Z
set_option maxRecDepth 20000 in
theorem b_282_0 {d nS : Nat} {x1 x2 : Int32} {M : am_M} {Q : Option Value → am_H → Prop} : am_Wp d 282 0 [.ref 205, .int x1, .int x2] [] (hp nS M) Q = if x1 = x2 then am_Wp d 282 19 [.ref 205, .int x1, .int x2] [] (hp nS M) Q else am_Wp d 282 5 [.ref 205, .int x1, .int x2] [] (hp nS M) Q := by
  refine (eq_run 2 (q := (2, [.ref 205, .int x1, .int x2], [.int x2, .int x1], hp nS M)) (by with_unfolding_all rfl)).trans ?_
  exact eq_cmp_eq (by with_unfolding_all rfl)
set_option maxRecDepth 20000 in
theorem b_282_5 {d nS : Nat} {x1 x2 : Int32} {M : am_M} {Q : Option Value → am_H → Prop} (h1 : vp_in x1 8) : am_Wp (d + 1) 282 5 [.ref 205, .int x1, .int x2] [] (hp nS M) Q = am_Wp d 267 0 [.ref 205, .int (M 232 x1.toNatClampNeg), .int x2] [] (hp nS M) (fun v h1 => am_Wp (d + 1) 282 16 [.ref 205, .int x1, .int x2] (am_ans v []) h1 Q) := by
  refine (eq_run 4 (q := (11, [.ref 205, .int x1, .int x2], [.int x1, .ref 232, .ref 205], hp nS M)) (by with_unfolding_all rfl)).trans ?_
  refine (eq_ald (e := (.iaload, 1, 0, 0, 0)) (by with_unfolding_all rfl) rfl (n := 8) (by with_unfolding_all rfl) h1).trans ?_
  refine (eq_run 1 (q := (13, [.ref 205, .int x1, .int x2], [.int x2, .int (M 232 x1.toNatClampNeg), .ref 205], hp nS M)) (by with_unfolding_all rfl)).trans ?_
  exact eq_call2 (e := (.invokevirtual 425, 3, 0, 267, 349)) (as := [.ref 205, .int (M 232 x1.toNatClampNeg), .int x2]) (r := []) (n := 3) (m := 3) (by with_unfolding_all rfl) rfl (by decide) (by with_unfolding_all rfl) (by decide) (by with_unfolding_all rfl) ⟨fun _ => am_rec_ok (c := 14) (by with_unfolding_all rfl) (by decide +kernel), fun z => by simp at z⟩
set_option maxRecDepth 20000 in
theorem b_282_16 {d nS : Nat} {x1 x2 s0 : Int32} {M : am_M} {Q : Option Value → am_H → Prop} : am_Wp d 282 16 [.ref 205, .int x1, .int x2] [.int s0] (hp nS M) Q = if s0 = 0 then am_Wp d 282 23 [.ref 205, .int x1, .int x2] [] (hp nS M) Q else am_Wp d 282 19 [.ref 205, .int x1, .int x2] [] (hp nS M) Q := by
  exact eq_if_eq (by with_unfolding_all rfl)
set_option maxRecDepth 20000 in
theorem b_282_19 {d nS : Nat} {x1 x2 : Int32} {M : am_M} {Q : Option Value → am_H → Prop} : am_Wp d 282 19 [.ref 205, .int x1, .int x2] [] (hp nS M) Q = am_Wp d 282 24 [.ref 205, .int x1, .int x2] [.int 1] (hp nS M) Q := by
  exact eq_run 2 (q := (24, [.ref 205, .int x1, .int x2], [.int 1], hp nS M)) (by with_unfolding_all rfl)
set_option maxRecDepth 20000 in
theorem b_282_23 {d nS : Nat} {x1 x2 : Int32} {M : am_M} {Q : Option Value → am_H → Prop} : am_Wp d 282 23 [.ref 205, .int x1, .int x2] [] (hp nS M) Q = am_Wp d 282 24 [.ref 205, .int x1, .int x2] [.int 0] (hp nS M) Q := by
  exact eq_run 1 (q := (24, [.ref 205, .int x1, .int x2], [.int 0], hp nS M)) (by with_unfolding_all rfl)
set_option maxRecDepth 20000 in
theorem b_282_24 {d nS : Nat} {x1 x2 s0 : Int32} {M : am_M} {Q : Option Value → am_H → Prop} (h1 : am_rok .boolean s0 = true) : am_Wp d 282 24 [.ref 205, .int x1, .int x2] [.int s0] (hp nS M) Q = Q (some (.int s0)) (hp nS M) := by
  exact eq_retI2 (e := (.ireturn, 1, 0, 0, 0)) (t := .boolean) (by with_unfolding_all rfl) rfl (by with_unfolding_all rfl) h1
-- sack(II)I
set_option maxRecDepth 20000 in
theorem b_283_0 {d nS : Nat} {x1 x2 : Int32} {M : am_M} {Q : Option Value → am_H → Prop} : am_Wp d 283 0 [.ref 205, .int x1, .int x2] [] (hp nS M) Q = if ¬ x1 = (-1) then am_Wp d 283 17 [.ref 205, .int x1, .int x2] [] (hp nS (am_up M 205 0 0)) Q else am_Wp d 283 10 [.ref 205, .int x1, .int x2] [] (hp nS (am_up M 205 0 0)) Q := by
  refine (eq_run 5 (q := (7, [.ref 205, .int x1, .int x2], [.int (-1), .int x1], hp nS (am_up M 205 0 0))) (by with_unfolding_all rfl)).trans ?_
  exact eq_cmp_ne (by with_unfolding_all rfl)
set_option maxRecDepth 20000 in
theorem b_283_10 {d nS : Nat} {x1 x2 : Int32} {M : am_M} {Q : Option Value → am_H → Prop} : am_Wp d 283 10 [.ref 205, .int x1, .int x2] [] (hp nS M) Q = Q (some (.int 0)) (hp nS (am_up M 205 54 0)) := by
  refine (eq_run 4 (q := (16, [.ref 205, .int x1, .int x2], [.int 0], hp nS (am_up M 205 54 0))) (by with_unfolding_all rfl)).trans ?_
  exact eq_retI2 (e := (.ireturn, 1, 0, 0, 0)) (t := .int) (by with_unfolding_all rfl) rfl (by with_unfolding_all rfl) rfl
set_option maxRecDepth 20000 in
theorem b_283_17 {d nS : Nat} {x1 x2 : Int32} {M : am_M} {Q : Option Value → am_H → Prop} : am_Wp (d + 1) 283 17 [.ref 205, .int x1, .int x2] [] (hp nS M) Q = am_Wp d 171 0 [.ref 205, .int x1, .int 1, .int 30] [] (hp nS M) (fun v h1 => am_Wp (d + 1) 283 25 [.ref 205, .int x1, .int x2] (am_ans v []) h1 Q) := by
  refine (eq_run 4 (q := (22, [.ref 205, .int x1, .int x2], [.int 30, .int 1, .int x1, .ref 205], hp nS M)) (by with_unfolding_all rfl)).trans ?_
  exact eq_call2 (e := (.invokevirtual 144, 3, 0, 171, 275)) (as := [.ref 205, .int x1, .int 1, .int 30]) (r := []) (n := 4) (m := 4) (by with_unfolding_all rfl) rfl (by decide) (by with_unfolding_all rfl) (by decide) (by with_unfolding_all rfl) ⟨fun _ => am_rec_ok (c := 14) (by with_unfolding_all rfl) (by decide +kernel), fun z => by simp at z⟩
set_option maxRecDepth 20000 in
theorem b_283_25 {d nS : Nat} {x1 x2 s0 : Int32} {M : am_M} {Q : Option Value → am_H → Prop} : am_Wp d 283 25 [.ref 205, .int x1, .int x2] [.int s0] (hp nS M) Q = if s0 = 0 then am_Wp d 283 48 [.ref 205, .int x1, .int x2] [] (hp nS M) Q else am_Wp d 283 28 [.ref 205, .int x1, .int x2] [] (hp nS M) Q := by
  exact eq_if_eq (by with_unfolding_all rfl)
set_option maxRecDepth 20000 in
theorem b_283_28 {d nS : Nat} {x1 x2 : Int32} {M : am_M} {Q : Option Value → am_H → Prop} : am_Wp (d + 1) 283 28 [.ref 205, .int x1, .int x2] [] (hp nS M) Q = am_Wp d 171 0 [.ref 205, .int x2, .int 1, .int 99] [] (hp nS M) (fun v h1 => am_Wp (d + 1) 283 36 [.ref 205, .int x1, .int x2] (am_ans v []) h1 Q) := by
  refine (eq_run 4 (q := (33, [.ref 205, .int x1, .int x2], [.int 99, .int 1, .int x2, .ref 205], hp nS M)) (by with_unfolding_all rfl)).trans ?_
  exact eq_call2 (e := (.invokevirtual 144, 3, 0, 171, 275)) (as := [.ref 205, .int x2, .int 1, .int 99]) (r := []) (n := 4) (m := 4) (by with_unfolding_all rfl) rfl (by decide) (by with_unfolding_all rfl) (by decide) (by with_unfolding_all rfl) ⟨fun _ => am_rec_ok (c := 14) (by with_unfolding_all rfl) (by decide +kernel), fun z => by simp at z⟩
set_option maxRecDepth 20000 in
theorem b_283_36 {d nS : Nat} {x1 x2 s0 : Int32} {M : am_M} {Q : Option Value → am_H → Prop} : am_Wp d 283 36 [.ref 205, .int x1, .int x2] [.int s0] (hp nS M) Q = if s0 = 0 then am_Wp d 283 48 [.ref 205, .int x1, .int x2] [] (hp nS M) Q else am_Wp d 283 39 [.ref 205, .int x1, .int x2] [] (hp nS M) Q := by
  exact eq_if_eq (by with_unfolding_all rfl)
set_option maxRecDepth 20000 in
theorem b_283_39 {d nS : Nat} {x1 x2 : Int32} {M : am_M} {Q : Option Value → am_H → Prop} : am_Wp d 283 39 [.ref 205, .int x1, .int x2] [] (hp nS M) Q = if ¬ (M 205 54) = 8 then am_Wp d 283 50 [.ref 205, .int x1, .int x2] [] (hp nS M) Q else am_Wp d 283 48 [.ref 205, .int x1, .int x2] [] (hp nS M) Q := by
  refine (eq_run 3 (q := (45, [.ref 205, .int x1, .int x2], [.int 8, .int (M 205 54)], hp nS M)) (by with_unfolding_all rfl)).trans ?_
  exact eq_cmp_ne (by with_unfolding_all rfl)
set_option maxRecDepth 20000 in
theorem b_283_48 {d nS : Nat} {x1 x2 : Int32} {M : am_M} {Q : Option Value → am_H → Prop} : am_Wp d 283 48 [.ref 205, .int x1, .int x2] [] (hp nS M) Q = Q (some (.int (-1))) (hp nS M) := by
  refine (eq_run 1 (q := (49, [.ref 205, .int x1, .int x2], [.int (-1)], hp nS M)) (by with_unfolding_all rfl)).trans ?_
  exact eq_retI2 (e := (.ireturn, 1, 0, 0, 0)) (t := .int) (by with_unfolding_all rfl) rfl (by with_unfolding_all rfl) rfl
set_option maxRecDepth 20000 in
theorem b_283_50 {d nS : Nat} {x1 x2 : Int32} {M : am_M} {Q : Option Value → am_H → Prop} (h1 : vp_in (M 205 54) 8) (h2 : vp_in ((am_up M 234 (M 205 54).toNatClampNeg x1) 205 54) 8) : am_Wp d 283 50 [.ref 205, .int x1, .int x2] [] (hp nS M) Q = Q (some (.int ((am_up (am_up (am_up M 234 (M 205 54).toNatClampNeg x1) 235 ((am_up M 234 (M 205 54).toNatClampNeg x1) 205 54).toNatClampNeg x2) 205 54 (((am_up (am_up M 234 (M 205 54).toNatClampNeg x1) 235 ((am_up M 234 (M 205 54).toNatClampNeg x1) 205 54).toNatClampNeg x2) 205 54) + 1)) 205 54))) (hp nS (am_up (am_up (am_up M 234 (M 205 54).toNatClampNeg x1) 235 ((am_up M 234 (M 205 54).toNatClampNeg x1) 205 54).toNatClampNeg x2) 205 54 (((am_up (am_up M 234 (M 205 54).toNatClampNeg x1) 235 ((am_up M 234 (M 205 54).toNatClampNeg x1) 205 54).toNatClampNeg x2) 205 54) + 1))) := by
  refine (eq_run 5 (q := (59, [.ref 205, .int x1, .int x2], [.int x1, .int (M 205 54), .ref 234], hp nS M)) (by with_unfolding_all rfl)).trans ?_
  refine (eq_ast (e := (.iastore, 1, 0, 0, 0)) (by with_unfolding_all rfl) rfl (n := 8) (by with_unfolding_all rfl) (by decide) h1).trans ?_
  refine (eq_run 5 (q := (69, [.ref 205, .int x1, .int x2], [.int x2, .int ((am_up M 234 (M 205 54).toNatClampNeg x1) 205 54), .ref 235], hp nS (am_up M 234 (M 205 54).toNatClampNeg x1))) (by with_unfolding_all rfl)).trans ?_
  refine (eq_ast (e := (.iastore, 1, 0, 0, 0)) (by with_unfolding_all rfl) rfl (n := 8) (by with_unfolding_all rfl) (by decide) h2).trans ?_
  refine (eq_run 8 (q := (84, [.ref 205, .int x1, .int x2], [.int ((am_up (am_up (am_up M 234 (M 205 54).toNatClampNeg x1) 235 ((am_up M 234 (M 205 54).toNatClampNeg x1) 205 54).toNatClampNeg x2) 205 54 (((am_up (am_up M 234 (M 205 54).toNatClampNeg x1) 235 ((am_up M 234 (M 205 54).toNatClampNeg x1) 205 54).toNatClampNeg x2) 205 54) + 1)) 205 54)], hp nS (am_up (am_up (am_up M 234 (M 205 54).toNatClampNeg x1) 235 ((am_up M 234 (M 205 54).toNatClampNeg x1) 205 54).toNatClampNeg x2) 205 54 (((am_up (am_up M 234 (M 205 54).toNatClampNeg x1) 235 ((am_up M 234 (M 205 54).toNatClampNeg x1) 205 54).toNatClampNeg x2) 205 54) + 1)))) (by with_unfolding_all rfl)).trans ?_
  exact eq_retI2 (e := (.ireturn, 1, 0, 0, 0)) (t := .int) (by with_unfolding_all rfl) rfl (by with_unfolding_all rfl) rfl
-- packed(II)I
set_option maxRecDepth 20000 in
theorem b_284_0 {d nS : Nat} {x1 x2 : Int32} {M : am_M} {Q : Option Value → am_H → Prop} : am_Wp (d + 1) 284 0 [.ref 205, .int x1, .int x2, .retAddr 0, .retAddr 0, .retAddr 0, .retAddr 0, .retAddr 0] [] (hp nS M) Q = am_Wp d 171 0 [.ref 205, .int x1, .int 0, .int 99] [] (hp nS (am_up M 205 0 0)) (fun v h1 => am_Wp (d + 1) 284 13 [.ref 205, .int x1, .int x2, .retAddr 0, .retAddr 0, .retAddr 0, .retAddr 0, .retAddr 0] (am_ans v []) h1 Q) := by
  refine (eq_run 7 (q := (10, [.ref 205, .int x1, .int x2, .retAddr 0, .retAddr 0, .retAddr 0, .retAddr 0, .retAddr 0], [.int 99, .int 0, .int x1, .ref 205], hp nS (am_up M 205 0 0))) (by with_unfolding_all rfl)).trans ?_
  exact eq_call2 (e := (.invokevirtual 144, 3, 0, 171, 275)) (as := [.ref 205, .int x1, .int 0, .int 99]) (r := []) (n := 4) (m := 4) (by with_unfolding_all rfl) rfl (by decide) (by with_unfolding_all rfl) (by decide) (by with_unfolding_all rfl) ⟨fun _ => am_rec_ok (c := 14) (by with_unfolding_all rfl) (by decide +kernel), fun z => by simp at z⟩
set_option maxRecDepth 20000 in
theorem b_284_13 {d nS : Nat} {x1 x2 s0 : Int32} {M : am_M} {Q : Option Value → am_H → Prop} : am_Wp d 284 13 [.ref 205, .int x1, .int x2, .retAddr 0, .retAddr 0, .retAddr 0, .retAddr 0, .retAddr 0] [.int s0] (hp nS M) Q = if s0 = 0 then am_Wp d 284 26 [.ref 205, .int x1, .int x2, .retAddr 0, .retAddr 0, .retAddr 0, .retAddr 0, .retAddr 0] [] (hp nS M) Q else am_Wp d 284 16 [.ref 205, .int x1, .int x2, .retAddr 0, .retAddr 0, .retAddr 0, .retAddr 0, .retAddr 0] [] (hp nS M) Q := by
  exact eq_if_eq (by with_unfolding_all rfl)
set_option maxRecDepth 20000 in
theorem b_284_16 {d nS : Nat} {x1 x2 : Int32} {M : am_M} {Q : Option Value → am_H → Prop} : am_Wp (d + 1) 284 16 [.ref 205, .int x1, .int x2, .retAddr 0, .retAddr 0, .retAddr 0, .retAddr 0, .retAddr 0] [] (hp nS M) Q = am_Wp d 171 0 [.ref 205, .int x2, .int 0, .int 2] [] (hp nS M) (fun v h1 => am_Wp (d + 1) 284 23 [.ref 205, .int x1, .int x2, .retAddr 0, .retAddr 0, .retAddr 0, .retAddr 0, .retAddr 0] (am_ans v []) h1 Q) := by
  refine (eq_run 4 (q := (20, [.ref 205, .int x1, .int x2, .retAddr 0, .retAddr 0, .retAddr 0, .retAddr 0, .retAddr 0], [.int 2, .int 0, .int x2, .ref 205], hp nS M)) (by with_unfolding_all rfl)).trans ?_
  exact eq_call2 (e := (.invokevirtual 144, 3, 0, 171, 275)) (as := [.ref 205, .int x2, .int 0, .int 2]) (r := []) (n := 4) (m := 4) (by with_unfolding_all rfl) rfl (by decide) (by with_unfolding_all rfl) (by decide) (by with_unfolding_all rfl) ⟨fun _ => am_rec_ok (c := 14) (by with_unfolding_all rfl) (by decide +kernel), fun z => by simp at z⟩
set_option maxRecDepth 20000 in
theorem b_284_23 {d nS : Nat} {x1 x2 s0 : Int32} {M : am_M} {Q : Option Value → am_H → Prop} : am_Wp d 284 23 [.ref 205, .int x1, .int x2, .retAddr 0, .retAddr 0, .retAddr 0, .retAddr 0, .retAddr 0] [.int s0] (hp nS M) Q = if ¬ s0 = 0 then am_Wp d 284 28 [.ref 205, .int x1, .int x2, .retAddr 0, .retAddr 0, .retAddr 0, .retAddr 0, .retAddr 0] [] (hp nS M) Q else am_Wp d 284 26 [.ref 205, .int x1, .int x2, .retAddr 0, .retAddr 0, .retAddr 0, .retAddr 0, .retAddr 0] [] (hp nS M) Q := by
  exact eq_if_ne (by with_unfolding_all rfl)
set_option maxRecDepth 20000 in
theorem b_284_26 {d nS : Nat} {x1 x2 : Int32} {M : am_M} {Q : Option Value → am_H → Prop} : am_Wp d 284 26 [.ref 205, .int x1, .int x2, .retAddr 0, .retAddr 0, .retAddr 0, .retAddr 0, .retAddr 0] [] (hp nS M) Q = Q (some (.int (-1))) (hp nS M) := by
  refine (eq_run 1 (q := (27, [.ref 205, .int x1, .int x2, .retAddr 0, .retAddr 0, .retAddr 0, .retAddr 0, .retAddr 0], [.int (-1)], hp nS M)) (by with_unfolding_all rfl)).trans ?_
  exact eq_retI2 (e := (.ireturn, 1, 0, 0, 0)) (t := .int) (by with_unfolding_all rfl) rfl (by with_unfolding_all rfl) rfl
set_option maxRecDepth 20000 in
theorem b_284_28 {d nS : Nat} {x1 x2 : Int32} {M : am_M} {Q : Option Value → am_H → Prop} : am_Wp (d + 1) 284 28 [.ref 205, .int x1, .int x2, .retAddr 0, .retAddr 0, .retAddr 0, .retAddr 0, .retAddr 0] [] (hp nS M) Q = am_Wp d 285 0 [.ref 205, .int 0, .retAddr 0, .retAddr 0] [] (hp nS M) (fun v h1 => am_Wp (d + 1) 284 44 [.ref 205, .int x1, .int x2, .int 0, .int x1, .int 0, .int 0, .retAddr 0] (am_ans v []) h1 Q) := by
  refine (eq_run 10 (q := (41, [.ref 205, .int x1, .int x2, .int 0, .int x1, .int 0, .int 0, .retAddr 0], [.int 0, .ref 205], hp nS M)) (by with_unfolding_all rfl)).trans ?_
  exact eq_call2 (e := (.invokevirtual 457, 3, 0, 285, 357)) (as := [.ref 205, .int 0]) (r := []) (n := 2) (m := 4) (by with_unfolding_all rfl) rfl (by decide) (by with_unfolding_all rfl) (by decide) (by with_unfolding_all rfl) ⟨fun _ => am_rec_ok (c := 14) (by with_unfolding_all rfl) (by decide +kernel), fun z => by simp at z⟩
set_option maxRecDepth 20000 in
theorem b_284_44 {d nS : Nat} {x1 x2 x3 x4 x5 x6 s0 : Int32} {M : am_M} {Q : Option Value → am_H → Prop} : am_Wp d 284 44 [.ref 205, .int x1, .int x2, .int x3, .int x4, .int x5, .int x6, .retAddr 0] [.int s0] (hp nS M) Q = am_Wp d 284 46 [.ref 205, .int x1, .int x2, .int x3, .int x4, .int x5, .int x6, .int s0] [] (hp nS M) Q := by
  exact eq_run 1 (q := (46, [.ref 205, .int x1, .int x2, .int x3, .int x4, .int x5, .int x6, .int s0], [], hp nS M)) (by with_unfolding_all rfl)
set_option maxRecDepth 20000 in
theorem b_284_46 {d nS : Nat} {x1 x2 x3 x4 x5 x6 x7 : Int32} {M : am_M} {Q : Option Value → am_H → Prop} : am_Wp d 284 46 [.ref 205, .int x1, .int x2, .int x3, .int x4, .int x5, .int x6, .int x7] [] (hp nS M) Q = if x7 = (-1) then am_Wp d 284 111 [.ref 205, .int x1, .int x2, .int x3, .int x4, .int x5, .int x6, .int x7] [] (hp nS M) Q else am_Wp d 284 52 [.ref 205, .int x1, .int x2, .int x3, .int x4, .int x5, .int x6, .int x7] [] (hp nS M) Q := by
  refine (eq_run 2 (q := (49, [.ref 205, .int x1, .int x2, .int x3, .int x4, .int x5, .int x6, .int x7], [.int (-1), .int x7], hp nS M)) (by with_unfolding_all rfl)).trans ?_
  exact eq_cmp_eq (by with_unfolding_all rfl)
set_option maxRecDepth 20000 in
theorem b_284_52 {d nS : Nat} {x1 x2 x3 x4 x5 x6 x7 : Int32} {M : am_M} {Q : Option Value → am_H → Prop} (h1 : vp_in x7 8) : am_Wp d 284 52 [.ref 205, .int x1, .int x2, .int x3, .int x4, .int x5, .int x6, .int x7] [] (hp nS M) Q = if x4 < (M 234 x7.toNatClampNeg) then am_Wp d 284 111 [.ref 205, .int x1, .int x2, .int x3, .int x4, .int x5, .int x6, .int x7] [] (hp nS M) Q else am_Wp d 284 64 [.ref 205, .int x1, .int x2, .int x3, .int x4, .int x5, .int x6, .int x7] [] (hp nS M) Q := by
  refine (eq_run 3 (q := (58, [.ref 205, .int x1, .int x2, .int x3, .int x4, .int x5, .int x6, .int x7], [.int x7, .ref 234], hp nS M)) (by with_unfolding_all rfl)).trans ?_
  refine (eq_ald (e := (.iaload, 1, 0, 0, 0)) (by with_unfolding_all rfl) rfl (n := 8) (by with_unfolding_all rfl) h1).trans ?_
  refine (eq_run 1 (q := (61, [.ref 205, .int x1, .int x2, .int x3, .int x4, .int x5, .int x6, .int x7], [.int x4, .int (M 234 x7.toNatClampNeg)], hp nS M)) (by with_unfolding_all rfl)).trans ?_
  exact eq_cmp_gt (by with_unfolding_all rfl)
set_option maxRecDepth 20000 in
theorem b_284_64 {d nS : Nat} {x1 x2 x3 x4 x5 x6 x7 : Int32} {M : am_M} {Q : Option Value → am_H → Prop} (h1 : vp_in x7 8) (h2 : vp_in x7 8) : am_Wp (d + 1) 284 64 [.ref 205, .int x1, .int x2, .int x3, .int x4, .int x5, .int x6, .int x7] [] (hp nS M) Q = am_Wp d 285 0 [.ref 205, .int (x3 ||| (1 <<< (x7 &&& 31))), .retAddr 0, .retAddr 0] [] (hp nS M) (fun v h1 => am_Wp (d + 1) 284 106 [.ref 205, .int x1, .int x2, .int (x3 ||| (1 <<< (x7 &&& 31))), .int (x4 - (M 234 x7.toNatClampNeg)), .int (x5 + 1), .int (x6 + (M 235 x7.toNatClampNeg)), .int x7] (am_ans v []) h1 Q) := by
  refine (eq_run 10 (q := (79, [.ref 205, .int x1, .int x2, .int (x3 ||| (1 <<< (x7 &&& 31))), .int x4, .int x5, .int x6, .int x7], [.int x7, .ref 234, .int x4], hp nS M)) (by with_unfolding_all rfl)).trans ?_
  refine (eq_ald (e := (.iaload, 1, 0, 0, 0)) (by with_unfolding_all rfl) rfl (n := 8) (by with_unfolding_all rfl) h1).trans ?_
  refine (eq_run 6 (q := (91, [.ref 205, .int x1, .int x2, .int (x3 ||| (1 <<< (x7 &&& 31))), .int (x4 - (M 234 x7.toNatClampNeg)), .int x5, .int x6, .int x7], [.int x7, .ref 235, .int x6], hp nS M)) (by with_unfolding_all rfl)).trans ?_
  refine (eq_ald (e := (.iaload, 1, 0, 0, 0)) (by with_unfolding_all rfl) rfl (n := 8) (by with_unfolding_all rfl) h2).trans ?_
  refine (eq_run 8 (q := (103, [.ref 205, .int x1, .int x2, .int (x3 ||| (1 <<< (x7 &&& 31))), .int (x4 - (M 234 x7.toNatClampNeg)), .int (x5 + 1), .int (x6 + (M 235 x7.toNatClampNeg)), .int x7], [.int (x3 ||| (1 <<< (x7 &&& 31))), .ref 205], hp nS M)) (by with_unfolding_all rfl)).trans ?_
  exact eq_call2 (e := (.invokevirtual 457, 3, 0, 285, 357)) (as := [.ref 205, .int (x3 ||| (1 <<< (x7 &&& 31)))]) (r := []) (n := 2) (m := 4) (by with_unfolding_all rfl) rfl (by decide) (by with_unfolding_all rfl) (by decide) (by with_unfolding_all rfl) ⟨fun _ => am_rec_ok (c := 14) (by with_unfolding_all rfl) (by decide +kernel), fun z => by simp at z⟩
set_option maxRecDepth 20000 in
theorem b_284_106 {d nS : Nat} {x1 x2 x3 x4 x5 x6 x7 s0 : Int32} {M : am_M} {Q : Option Value → am_H → Prop} : am_Wp d 284 106 [.ref 205, .int x1, .int x2, .int x3, .int x4, .int x5, .int x6, .int x7] [.int s0] (hp nS M) Q = am_Wp d 284 46 [.ref 205, .int x1, .int x2, .int x3, .int x4, .int x5, .int x6, .int s0] [] (hp nS M) Q := by
  exact eq_run 2 (q := (46, [.ref 205, .int x1, .int x2, .int x3, .int x4, .int x5, .int x6, .int s0], [], hp nS M)) (by with_unfolding_all rfl)
set_option maxRecDepth 20000 in
theorem b_284_111 {d nS : Nat} {x1 x2 x3 x4 x5 x6 x7 : Int32} {M : am_M} {Q : Option Value → am_H → Prop} : am_Wp d 284 111 [.ref 205, .int x1, .int x2, .int x3, .int x4, .int x5, .int x6, .int x7] [] (hp nS M) Q = if ¬ x2 = 2 then am_Wp d 284 119 [.ref 205, .int x1, .int x2, .int x3, .int x4, .int x5, .int x6, .int x7] [] (hp nS M) Q else am_Wp d 284 116 [.ref 205, .int x1, .int x2, .int x3, .int x4, .int x5, .int x6, .int x7] [] (hp nS M) Q := by
  refine (eq_run 2 (q := (113, [.ref 205, .int x1, .int x2, .int x3, .int x4, .int x5, .int x6, .int x7], [.int 2, .int x2], hp nS M)) (by with_unfolding_all rfl)).trans ?_
  exact eq_cmp_ne (by with_unfolding_all rfl)
set_option maxRecDepth 20000 in
theorem b_284_116 {d nS : Nat} {x1 x2 x3 x4 x5 x6 x7 : Int32} {M : am_M} {Q : Option Value → am_H → Prop} : am_Wp d 284 116 [.ref 205, .int x1, .int x2, .int x3, .int x4, .int x5, .int x6, .int x7] [] (hp nS M) Q = Q (some (.int x5)) (hp nS M) := by
  refine (eq_run 1 (q := (118, [.ref 205, .int x1, .int x2, .int x3, .int x4, .int x5, .int x6, .int x7], [.int x5], hp nS M)) (by with_unfolding_all rfl)).trans ?_
  exact eq_retI2 (e := (.ireturn, 1, 0, 0, 0)) (t := .int) (by with_unfolding_all rfl) rfl (by with_unfolding_all rfl) rfl
set_option maxRecDepth 20000 in
theorem b_284_119 {d nS : Nat} {x1 x2 x3 x4 x5 x6 x7 : Int32} {M : am_M} {Q : Option Value → am_H → Prop} : am_Wp d 284 119 [.ref 205, .int x1, .int x2, .int x3, .int x4, .int x5, .int x6, .int x7] [] (hp nS M) Q = if ¬ x7 = (-1) then am_Wp d 284 135 [.ref 205, .int x1, .int x2, .int x3, .int x4, .int x5, .int x6, .int x7] [] (hp nS M) Q else am_Wp d 284 125 [.ref 205, .int x1, .int x2, .int x3, .int x4, .int x5, .int x6, .int x7] [] (hp nS M) Q := by
  refine (eq_run 2 (q := (122, [.ref 205, .int x1, .int x2, .int x3, .int x4, .int x5, .int x6, .int x7], [.int (-1), .int x7], hp nS M)) (by with_unfolding_all rfl)).trans ?_
  exact eq_cmp_ne (by with_unfolding_all rfl)
set_option maxRecDepth 20000 in
theorem b_284_125 {d nS : Nat} {x1 x2 x3 x4 x5 x6 x7 : Int32} {M : am_M} {Q : Option Value → am_H → Prop} : am_Wp (d + 1) 284 125 [.ref 205, .int x1, .int x2, .int x3, .int x4, .int x5, .int x6, .int x7] [] (hp nS M) Q = am_Wp d 268 0 [.ref 205, .int x6, .int 1, .retAddr 0] [] (hp nS M) (fun v h1 => am_Wp (d + 1) 284 132 [.ref 205, .int x1, .int x2, .int x3, .int x4, .int x5, .int x6, .int x7] (am_ans v []) h1 Q) := by
  refine (eq_run 3 (q := (129, [.ref 205, .int x1, .int x2, .int x3, .int x4, .int x5, .int x6, .int x7], [.int 1, .int x6, .ref 205], hp nS M)) (by with_unfolding_all rfl)).trans ?_
  exact eq_call2 (e := (.invokevirtual 429, 3, 0, 268, 350)) (as := [.ref 205, .int x6, .int 1]) (r := []) (n := 3) (m := 4) (by with_unfolding_all rfl) rfl (by decide) (by with_unfolding_all rfl) (by decide) (by with_unfolding_all rfl) ⟨fun _ => am_rec_ok (c := 14) (by with_unfolding_all rfl) (by decide +kernel), fun z => by simp at z⟩
set_option maxRecDepth 20000 in
theorem b_284_132 {d nS : Nat} {x1 x2 x3 x4 x5 x6 x7 : Int32} {M : am_M} {Q : Option Value → am_H → Prop} : am_Wp d 284 132 [.ref 205, .int x1, .int x2, .int x3, .int x4, .int x5, .int x6, .int x7] [] (hp nS M) Q = am_Wp d 284 167 [.ref 205, .int x1, .int x2, .int x3, .int x4, .int x5, .int x6, .int x7] [] (hp nS M) Q := by
  exact eq_run 1 (q := (167, [.ref 205, .int x1, .int x2, .int x3, .int x4, .int x5, .int x6, .int x7], [], hp nS M)) (by with_unfolding_all rfl)
set_option maxRecDepth 20000 in
theorem b_284_135 {d nS : Nat} {x1 x2 x3 x4 x5 x6 x7 : Int32} {M : am_M} {Q : Option Value → am_H → Prop} (h1 : vp_in x7 8) (h2 : vp_in x7 8) (h3 : vp_in x7 8) : am_Wp (d + 1) 284 135 [.ref 205, .int x1, .int x2, .int x3, .int x4, .int x5, .int x6, .int x7] [] (hp nS M) Q = am_Wp d 268 0 [.ref 205, .int ((x6 * (M 234 x7.toNatClampNeg)) + (x4 * (M 235 x7.toNatClampNeg))), .int (M 234 x7.toNatClampNeg), .retAddr 0] [] (hp nS M) (fun v h1 => am_Wp (d + 1) 284 167 [.ref 205, .int x1, .int x2, .int x3, .int x4, .int x5, .int x6, .int x7] (am_ans v []) h1 Q) := by
  refine (eq_run 5 (q := (144, [.ref 205, .int x1, .int x2, .int x3, .int x4, .int x5, .int x6, .int x7], [.int x7, .ref 234, .int x6, .ref 205], hp nS M)) (by with_unfolding_all rfl)).trans ?_
  refine (eq_ald (e := (.iaload, 1, 0, 0, 0)) (by with_unfolding_all rfl) rfl (n := 8) (by with_unfolding_all rfl) h1).trans ?_
  refine (eq_run 5 (q := (154, [.ref 205, .int x1, .int x2, .int x3, .int x4, .int x5, .int x6, .int x7], [.int x7, .ref 235, .int x4, .int (x6 * (M 234 x7.toNatClampNeg)), .ref 205], hp nS M)) (by with_unfolding_all rfl)).trans ?_
  refine (eq_ald (e := (.iaload, 1, 0, 0, 0)) (by with_unfolding_all rfl) rfl (n := 8) (by with_unfolding_all rfl) h2).trans ?_
  refine (eq_run 5 (q := (163, [.ref 205, .int x1, .int x2, .int x3, .int x4, .int x5, .int x6, .int x7], [.int x7, .ref 234, .int ((x6 * (M 234 x7.toNatClampNeg)) + (x4 * (M 235 x7.toNatClampNeg))), .ref 205], hp nS M)) (by with_unfolding_all rfl)).trans ?_
  refine (eq_ald (e := (.iaload, 1, 0, 0, 0)) (by with_unfolding_all rfl) rfl (n := 8) (by with_unfolding_all rfl) h3).trans ?_
  exact eq_call2 (e := (.invokevirtual 429, 3, 0, 268, 350)) (as := [.ref 205, .int ((x6 * (M 234 x7.toNatClampNeg)) + (x4 * (M 235 x7.toNatClampNeg))), .int (M 234 x7.toNatClampNeg)]) (r := []) (n := 3) (m := 4) (by with_unfolding_all rfl) rfl (by decide) (by with_unfolding_all rfl) (by decide) (by with_unfolding_all rfl) ⟨fun _ => am_rec_ok (c := 14) (by with_unfolding_all rfl) (by decide +kernel), fun z => by simp at z⟩
set_option maxRecDepth 20000 in
theorem b_284_167 {d nS : Nat} {x1 x2 x3 x4 x5 x6 x7 : Int32} {M : am_M} {Q : Option Value → am_H → Prop} : am_Wp d 284 167 [.ref 205, .int x1, .int x2, .int x3, .int x4, .int x5, .int x6, .int x7] [] (hp nS M) Q = if ¬ x2 = 0 then am_Wp d 284 178 [.ref 205, .int x1, .int x2, .int x3, .int x4, .int x5, .int x6, .int x7] [] (hp nS M) Q else am_Wp d 284 171 [.ref 205, .int x1, .int x2, .int x3, .int x4, .int x5, .int x6, .int x7] [] (hp nS M) Q := by
  refine (eq_run 1 (q := (168, [.ref 205, .int x1, .int x2, .int x3, .int x4, .int x5, .int x6, .int x7], [.int x2], hp nS M)) (by with_unfolding_all rfl)).trans ?_
  exact eq_if_ne (by with_unfolding_all rfl)
set_option maxRecDepth 20000 in
theorem b_284_171 {d nS : Nat} {x1 x2 x3 x4 x5 x6 x7 : Int32} {M : am_M} {Q : Option Value → am_H → Prop} : am_Wp d 284 171 [.ref 205, .int x1, .int x2, .int x3, .int x4, .int x5, .int x6, .int x7] [] (hp nS M) Q = am_Wp d 284 182 [.ref 205, .int x1, .int x2, .int x3, .int x4, .int x5, .int x6, .int x7] [.int (M 205 1)] (hp nS M) Q := by
  exact eq_run 3 (q := (182, [.ref 205, .int x1, .int x2, .int x3, .int x4, .int x5, .int x6, .int x7], [.int (M 205 1)], hp nS M)) (by with_unfolding_all rfl)
set_option maxRecDepth 20000 in
theorem b_284_178 {d nS : Nat} {x1 x2 x3 x4 x5 x6 x7 : Int32} {M : am_M} {Q : Option Value → am_H → Prop} : am_Wp d 284 178 [.ref 205, .int x1, .int x2, .int x3, .int x4, .int x5, .int x6, .int x7] [] (hp nS M) Q = am_Wp d 284 182 [.ref 205, .int x1, .int x2, .int x3, .int x4, .int x5, .int x6, .int x7] [.int (M 205 2)] (hp nS M) Q := by
  exact eq_run 2 (q := (182, [.ref 205, .int x1, .int x2, .int x3, .int x4, .int x5, .int x6, .int x7], [.int (M 205 2)], hp nS M)) (by with_unfolding_all rfl)
set_option maxRecDepth 20000 in
theorem b_284_182 {d nS : Nat} {x1 x2 x3 x4 x5 x6 x7 s0 : Int32} {M : am_M} {Q : Option Value → am_H → Prop} : am_Wp d 284 182 [.ref 205, .int x1, .int x2, .int x3, .int x4, .int x5, .int x6, .int x7] [.int s0] (hp nS M) Q = Q (some (.int s0)) (hp nS M) := by
  exact eq_retI2 (e := (.ireturn, 1, 0, 0, 0)) (t := .int) (by with_unfolding_all rfl) rfl (by with_unfolding_all rfl) rfl
-- nextForSack(I)I
set_option maxRecDepth 20000 in
theorem b_285_0 {d nS : Nat} {x1 : Int32} {M : am_M} {Q : Option Value → am_H → Prop} : am_Wp d 285 0 [.ref 205, .int x1, .retAddr 0, .retAddr 0] [] (hp nS M) Q = am_Wp d 285 4 [.ref 205, .int x1, .int (-1), .int 0] [] (hp nS M) Q := by
  exact eq_run 4 (q := (4, [.ref 205, .int x1, .int (-1), .int 0], [], hp nS M)) (by with_unfolding_all rfl)
set_option maxRecDepth 20000 in
theorem b_285_4 {d nS : Nat} {x1 x2 x3 : Int32} {M : am_M} {Q : Option Value → am_H → Prop} : am_Wp d 285 4 [.ref 205, .int x1, .int x2, .int x3] [] (hp nS M) Q = if (M 205 54) ≤ x3 then am_Wp d 285 63 [.ref 205, .int x1, .int x2, .int x3] [] (hp nS M) Q else am_Wp d 285 12 [.ref 205, .int x1, .int x2, .int x3] [] (hp nS M) Q := by
  refine (eq_run 3 (q := (9, [.ref 205, .int x1, .int x2, .int x3], [.int (M 205 54), .int x3], hp nS M)) (by with_unfolding_all rfl)).trans ?_
  exact eq_cmp_ge (by with_unfolding_all rfl)
set_option maxRecDepth 20000 in
theorem b_285_12 {d nS : Nat} {x1 x2 x3 : Int32} {M : am_M} {Q : Option Value → am_H → Prop} : am_Wp (d + 1) 285 12 [.ref 205, .int x1, .int x2, .int x3] [] (hp nS M) Q = am_Wp d 267 0 [.ref 205, .int x1, .int x3] [] (hp nS M) (fun v h1 => am_Wp (d + 1) 285 18 [.ref 205, .int x1, .int x2, .int x3] (am_ans v []) h1 Q) := by
  refine (eq_run 3 (q := (15, [.ref 205, .int x1, .int x2, .int x3], [.int x3, .int x1, .ref 205], hp nS M)) (by with_unfolding_all rfl)).trans ?_
  exact eq_call2 (e := (.invokevirtual 425, 3, 0, 267, 349)) (as := [.ref 205, .int x1, .int x3]) (r := []) (n := 3) (m := 3) (by with_unfolding_all rfl) rfl (by decide) (by with_unfolding_all rfl) (by decide) (by with_unfolding_all rfl) ⟨fun _ => am_rec_ok (c := 14) (by with_unfolding_all rfl) (by decide +kernel), fun z => by simp at z⟩
set_option maxRecDepth 20000 in
theorem b_285_18 {d nS : Nat} {x1 x2 x3 s0 : Int32} {M : am_M} {Q : Option Value → am_H → Prop} : am_Wp d 285 18 [.ref 205, .int x1, .int x2, .int x3] [.int s0] (hp nS M) Q = if ¬ s0 = 0 then am_Wp d 285 57 [.ref 205, .int x1, .int x2, .int x3] [] (hp nS M) Q else am_Wp d 285 21 [.ref 205, .int x1, .int x2, .int x3] [] (hp nS M) Q := by
  exact eq_if_ne (by with_unfolding_all rfl)
set_option maxRecDepth 20000 in
theorem b_285_21 {d nS : Nat} {x1 x2 x3 : Int32} {M : am_M} {Q : Option Value → am_H → Prop} : am_Wp d 285 21 [.ref 205, .int x1, .int x2, .int x3] [] (hp nS M) Q = if x2 = (-1) then am_Wp d 285 55 [.ref 205, .int x1, .int x2, .int x3] [] (hp nS M) Q else am_Wp d 285 26 [.ref 205, .int x1, .int x2, .int x3] [] (hp nS M) Q := by
  refine (eq_run 2 (q := (23, [.ref 205, .int x1, .int x2, .int x3], [.int (-1), .int x2], hp nS M)) (by with_unfolding_all rfl)).trans ?_
  exact eq_cmp_eq (by with_unfolding_all rfl)
set_option maxRecDepth 20000 in
theorem b_285_26 {d nS : Nat} {x1 x2 x3 : Int32} {M : am_M} {Q : Option Value → am_H → Prop} (h1 : vp_in x3 8) (h2 : vp_in x2 8) (h3 : vp_in x2 8) (h4 : vp_in x3 8) : am_Wp d 285 26 [.ref 205, .int x1, .int x2, .int x3] [] (hp nS M) Q = if ((M 235 x3.toNatClampNeg) * (M 234 x2.toNatClampNeg)) ≤ ((M 235 x2.toNatClampNeg) * (M 234 x3.toNatClampNeg)) then am_Wp d 285 57 [.ref 205, .int x1, .int x2, .int x3] [] (hp nS M) Q else am_Wp d 285 55 [.ref 205, .int x1, .int x2, .int x3] [] (hp nS M) Q := by
  refine (eq_run 3 (q := (31, [.ref 205, .int x1, .int x2, .int x3], [.int x3, .ref 235], hp nS M)) (by with_unfolding_all rfl)).trans ?_
  refine (eq_ald (e := (.iaload, 1, 0, 0, 0)) (by with_unfolding_all rfl) rfl (n := 8) (by with_unfolding_all rfl) h1).trans ?_
  refine (eq_run 3 (q := (37, [.ref 205, .int x1, .int x2, .int x3], [.int x2, .ref 234, .int (M 235 x3.toNatClampNeg)], hp nS M)) (by with_unfolding_all rfl)).trans ?_
  refine (eq_ald (e := (.iaload, 1, 0, 0, 0)) (by with_unfolding_all rfl) rfl (n := 8) (by with_unfolding_all rfl) h2).trans ?_
  refine (eq_run 4 (q := (44, [.ref 205, .int x1, .int x2, .int x3], [.int x2, .ref 235, .int ((M 235 x3.toNatClampNeg) * (M 234 x2.toNatClampNeg))], hp nS M)) (by with_unfolding_all rfl)).trans ?_
  refine (eq_ald (e := (.iaload, 1, 0, 0, 0)) (by with_unfolding_all rfl) rfl (n := 8) (by with_unfolding_all rfl) h3).trans ?_
  refine (eq_run 3 (q := (50, [.ref 205, .int x1, .int x2, .int x3], [.int x3, .ref 234, .int (M 235 x2.toNatClampNeg), .int ((M 235 x3.toNatClampNeg) * (M 234 x2.toNatClampNeg))], hp nS M)) (by with_unfolding_all rfl)).trans ?_
  refine (eq_ald (e := (.iaload, 1, 0, 0, 0)) (by with_unfolding_all rfl) rfl (n := 8) (by with_unfolding_all rfl) h4).trans ?_
  refine (eq_run 1 (q := (52, [.ref 205, .int x1, .int x2, .int x3], [.int ((M 235 x2.toNatClampNeg) * (M 234 x3.toNatClampNeg)), .int ((M 235 x3.toNatClampNeg) * (M 234 x2.toNatClampNeg))], hp nS M)) (by with_unfolding_all rfl)).trans ?_
  exact eq_cmp_le (by with_unfolding_all rfl)
set_option maxRecDepth 20000 in
theorem b_285_55 {d nS : Nat} {x1 x2 x3 : Int32} {M : am_M} {Q : Option Value → am_H → Prop} : am_Wp d 285 55 [.ref 205, .int x1, .int x2, .int x3] [] (hp nS M) Q = am_Wp d 285 57 [.ref 205, .int x1, .int x3, .int x3] [] (hp nS M) Q := by
  exact eq_run 2 (q := (57, [.ref 205, .int x1, .int x3, .int x3], [], hp nS M)) (by with_unfolding_all rfl)
set_option maxRecDepth 20000 in
theorem b_285_57 {d nS : Nat} {x1 x2 x3 : Int32} {M : am_M} {Q : Option Value → am_H → Prop} : am_Wp d 285 57 [.ref 205, .int x1, .int x2, .int x3] [] (hp nS M) Q = am_Wp d 285 4 [.ref 205, .int x1, .int x2, .int (x3 + 1)] [] (hp nS M) Q := by
  exact eq_run 2 (q := (4, [.ref 205, .int x1, .int x2, .int (x3 + 1)], [], hp nS M)) (by with_unfolding_all rfl)
set_option maxRecDepth 20000 in
theorem b_285_63 {d nS : Nat} {x1 x2 x3 : Int32} {M : am_M} {Q : Option Value → am_H → Prop} : am_Wp d 285 63 [.ref 205, .int x1, .int x2, .int x3] [] (hp nS M) Q = Q (some (.int x2)) (hp nS M) := by
  refine (eq_run 1 (q := (64, [.ref 205, .int x1, .int x2, .int x3], [.int x2], hp nS M)) (by with_unfolding_all rfl)).trans ?_
  exact eq_retI2 (e := (.ireturn, 1, 0, 0, 0)) (t := .int) (by with_unfolding_all rfl) rfl (by with_unfolding_all rfl) rfl
-- shares(II)I
set_option maxRecDepth 20000 in
theorem b_286_0 {d nS : Nat} {x1 x2 : Int32} {M : am_M} {Q : Option Value → am_H → Prop} : am_Wp (d + 1) 286 0 [.ref 205, .int x1, .int x2] [] (hp nS M) Q = am_Wp d 171 0 [.ref 205, .int x1, .int 1, .int 60] [] (hp nS (am_up M 205 0 0)) (fun v h1 => am_Wp (d + 1) 286 13 [.ref 205, .int x1, .int x2] (am_ans v []) h1 Q) := by
  refine (eq_run 7 (q := (10, [.ref 205, .int x1, .int x2], [.int 60, .int 1, .int x1, .ref 205], hp nS (am_up M 205 0 0))) (by with_unfolding_all rfl)).trans ?_
  exact eq_call2 (e := (.invokevirtual 144, 3, 0, 171, 275)) (as := [.ref 205, .int x1, .int 1, .int 60]) (r := []) (n := 4) (m := 4) (by with_unfolding_all rfl) rfl (by decide) (by with_unfolding_all rfl) (by decide) (by with_unfolding_all rfl) ⟨fun _ => am_rec_ok (c := 14) (by with_unfolding_all rfl) (by decide +kernel), fun z => by simp at z⟩
set_option maxRecDepth 20000 in
theorem b_286_13 {d nS : Nat} {x1 x2 s0 : Int32} {M : am_M} {Q : Option Value → am_H → Prop} : am_Wp d 286 13 [.ref 205, .int x1, .int x2] [.int s0] (hp nS M) Q = if ¬ s0 = 0 then am_Wp d 286 18 [.ref 205, .int x1, .int x2] [] (hp nS M) Q else am_Wp d 286 16 [.ref 205, .int x1, .int x2] [] (hp nS M) Q := by
  exact eq_if_ne (by with_unfolding_all rfl)
set_option maxRecDepth 20000 in
theorem b_286_16 {d nS : Nat} {x1 x2 : Int32} {M : am_M} {Q : Option Value → am_H → Prop} : am_Wp d 286 16 [.ref 205, .int x1, .int x2] [] (hp nS M) Q = Q (some (.int (-1))) (hp nS M) := by
  refine (eq_run 1 (q := (17, [.ref 205, .int x1, .int x2], [.int (-1)], hp nS M)) (by with_unfolding_all rfl)).trans ?_
  exact eq_retI2 (e := (.ireturn, 1, 0, 0, 0)) (t := .int) (by with_unfolding_all rfl) rfl (by with_unfolding_all rfl) rfl
set_option maxRecDepth 20000 in
theorem b_286_18 {d nS : Nat} {x1 x2 : Int32} {M : am_M} {Q : Option Value → am_H → Prop} : am_Wp d 286 18 [.ref 205, .int x1, .int x2] [] (hp nS M) Q = if x2 = 0 then am_Wp d 286 27 [.ref 205, .int x1, .int x2] [] (hp nS M) Q else am_Wp d 286 22 [.ref 205, .int x1, .int x2] [] (hp nS M) Q := by
  refine (eq_run 1 (q := (19, [.ref 205, .int x1, .int x2], [.int x2], hp nS M)) (by with_unfolding_all rfl)).trans ?_
  exact eq_if_eq (by with_unfolding_all rfl)
set_option maxRecDepth 20000 in
theorem b_286_22 {d nS : Nat} {x1 x2 : Int32} {M : am_M} {Q : Option Value → am_H → Prop} : am_Wp d 286 22 [.ref 205, .int x1, .int x2] [] (hp nS M) Q = if ¬ x2 = 1 then am_Wp d 286 53 [.ref 205, .int x1, .int x2] [] (hp nS M) Q else am_Wp d 286 27 [.ref 205, .int x1, .int x2] [] (hp nS M) Q := by
  refine (eq_run 2 (q := (24, [.ref 205, .int x1, .int x2], [.int 1, .int x2], hp nS M)) (by with_unfolding_all rfl)).trans ?_
  exact eq_cmp_ne (by with_unfolding_all rfl)
set_option maxRecDepth 20000 in
theorem b_286_27 {d nS : Nat} {x1 x2 : Int32} {M : am_M} {Q : Option Value → am_H → Prop} : am_Wp d 286 27 [.ref 205, .int x1, .int x2] [] (hp nS M) Q = if ¬ x2 = 0 then am_Wp d 286 38 [.ref 205, .int x1, .int x2] [.int x1, .int x1, .ref 205] (hp nS M) Q else am_Wp d 286 34 [.ref 205, .int x1, .int x2] [.int x1, .int x1, .ref 205] (hp nS M) Q := by
  refine (eq_run 4 (q := (31, [.ref 205, .int x1, .int x2], [.int x2, .int x1, .int x1, .ref 205], hp nS M)) (by with_unfolding_all rfl)).trans ?_
  exact eq_if_ne (by with_unfolding_all rfl)
set_option maxRecDepth 20000 in
theorem b_286_34 {d nS : Nat} {x1 x2 s1 s2 : Int32} {M : am_M} {Q : Option Value → am_H → Prop} : am_Wp d 286 34 [.ref 205, .int x1, .int x2] [.int s2, .int s1, .ref 205] (hp nS M) Q = am_Wp d 286 39 [.ref 205, .int x1, .int x2] [.int 1, .int s2, .int s1, .ref 205] (hp nS M) Q := by
  exact eq_run 2 (q := (39, [.ref 205, .int x1, .int x2], [.int 1, .int s2, .int s1, .ref 205], hp nS M)) (by with_unfolding_all rfl)
set_option maxRecDepth 20000 in
theorem b_286_38 {d nS : Nat} {x1 x2 s1 s2 : Int32} {M : am_M} {Q : Option Value → am_H → Prop} : am_Wp d 286 38 [.ref 205, .int x1, .int x2] [.int s2, .int s1, .ref 205] (hp nS M) Q = am_Wp d 286 39 [.ref 205, .int x1, .int x2] [.int 0, .int s2, .int s1, .ref 205] (hp nS M) Q := by
  exact eq_run 1 (q := (39, [.ref 205, .int x1, .int x2], [.int 0, .int s2, .int s1, .ref 205], hp nS M)) (by with_unfolding_all rfl)
set_option maxRecDepth 20000 in
theorem b_286_39 {d nS : Nat} {x1 x2 s1 s2 s3 : Int32} {M : am_M} {Q : Option Value → am_H → Prop} : am_Wp d 286 39 [.ref 205, .int x1, .int x2] [.int s3, .int s2, .int s1, .ref 205] (hp nS M) Q = if ¬ x2 = 1 then am_Wp d 286 48 [.ref 205, .int x1, .int x2] [.int s3, .int s2, .int s1, .ref 205] (hp nS M) Q else am_Wp d 286 44 [.ref 205, .int x1, .int x2] [.int s3, .int s2, .int s1, .ref 205] (hp nS M) Q := by
  refine (eq_run 2 (q := (41, [.ref 205, .int x1, .int x2], [.int 1, .int x2, .int s3, .int s2, .int s1, .ref 205], hp nS M)) (by with_unfolding_all rfl)).trans ?_
  exact eq_cmp_ne (by with_unfolding_all rfl)
set_option maxRecDepth 20000 in
theorem b_286_44 {d nS : Nat} {x1 x2 s1 s2 s3 : Int32} {M : am_M} {Q : Option Value → am_H → Prop} : am_Wp d 286 44 [.ref 205, .int x1, .int x2] [.int s3, .int s2, .int s1, .ref 205] (hp nS M) Q = am_Wp d 286 49 [.ref 205, .int x1, .int x2] [.int 1, .int s3, .int s2, .int s1, .ref 205] (hp nS M) Q := by
  exact eq_run 2 (q := (49, [.ref 205, .int x1, .int x2], [.int 1, .int s3, .int s2, .int s1, .ref 205], hp nS M)) (by with_unfolding_all rfl)
set_option maxRecDepth 20000 in
theorem b_286_48 {d nS : Nat} {x1 x2 s1 s2 s3 : Int32} {M : am_M} {Q : Option Value → am_H → Prop} : am_Wp d 286 48 [.ref 205, .int x1, .int x2] [.int s3, .int s2, .int s1, .ref 205] (hp nS M) Q = am_Wp d 286 49 [.ref 205, .int x1, .int x2] [.int 0, .int s3, .int s2, .int s1, .ref 205] (hp nS M) Q := by
  exact eq_run 1 (q := (49, [.ref 205, .int x1, .int x2], [.int 0, .int s3, .int s2, .int s1, .ref 205], hp nS M)) (by with_unfolding_all rfl)
set_option maxRecDepth 20000 in
theorem b_286_49 {d nS : Nat} {x1 x2 s1 s2 s3 s4 : Int32} {M : am_M} {Q : Option Value → am_H → Prop} : am_Wp (d + 1) 286 49 [.ref 205, .int x1, .int x2] [.int s4, .int s3, .int s2, .int s1, .ref 205] (hp nS M) Q = am_Wp d 287 0 [.ref 205, .int s1, .int s2, .int s3, .int s4, .retAddr 0, .retAddr 0, .retAddr 0] [] (hp nS M) (fun v h1 => am_Wp (d + 1) 286 52 [.ref 205, .int x1, .int x2] (am_ans v []) h1 Q) := by
  exact eq_call2 (e := (.invokevirtual 460, 3, 0, 287, 358)) (as := [.ref 205, .int s1, .int s2, .int s3, .int s4]) (r := []) (n := 5) (m := 8) (by with_unfolding_all rfl) rfl (by decide) (by with_unfolding_all rfl) (by decide) (by with_unfolding_all rfl) ⟨fun _ => am_rec_ok (c := 14) (by with_unfolding_all rfl) (by decide +kernel), fun z => by simp at z⟩
set_option maxRecDepth 20000 in
theorem b_286_52 {d nS : Nat} {x1 x2 s0 : Int32} {M : am_M} {Q : Option Value → am_H → Prop} : am_Wp d 286 52 [.ref 205, .int x1, .int x2] [.int s0] (hp nS M) Q = Q (some (.int s0)) (hp nS M) := by
  exact eq_retI2 (e := (.ireturn, 1, 0, 0, 0)) (t := .int) (by with_unfolding_all rfl) rfl (by with_unfolding_all rfl) rfl
set_option maxRecDepth 20000 in
theorem b_286_53 {d nS : Nat} {x1 x2 : Int32} {M : am_M} {Q : Option Value → am_H → Prop} : am_Wp (d + 1) 286 53 [.ref 205, .int x1, .int x2] [] (hp nS M) Q = am_Wp d 171 0 [.ref 205, .int x2, .int 101, .int 160] [] (hp nS M) (fun v h1 => am_Wp (d + 1) 286 63 [.ref 205, .int x1, .int x2] (am_ans v []) h1 Q) := by
  refine (eq_run 4 (q := (60, [.ref 205, .int x1, .int x2], [.int 160, .int 101, .int x2, .ref 205], hp nS M)) (by with_unfolding_all rfl)).trans ?_
  exact eq_call2 (e := (.invokevirtual 144, 3, 0, 171, 275)) (as := [.ref 205, .int x2, .int 101, .int 160]) (r := []) (n := 4) (m := 4) (by with_unfolding_all rfl) rfl (by decide) (by with_unfolding_all rfl) (by decide) (by with_unfolding_all rfl) ⟨fun _ => am_rec_ok (c := 14) (by with_unfolding_all rfl) (by decide +kernel), fun z => by simp at z⟩
set_option maxRecDepth 20000 in
theorem b_286_63 {d nS : Nat} {x1 x2 s0 : Int32} {M : am_M} {Q : Option Value → am_H → Prop} : am_Wp d 286 63 [.ref 205, .int x1, .int x2] [.int s0] (hp nS M) Q = if s0 = 0 then am_Wp d 286 80 [.ref 205, .int x1, .int x2] [] (hp nS M) Q else am_Wp d 286 66 [.ref 205, .int x1, .int x2] [] (hp nS M) Q := by
  exact eq_if_eq (by with_unfolding_all rfl)
set_option maxRecDepth 20000 in
theorem b_286_66 {d nS : Nat} {x1 x2 : Int32} {M : am_M} {Q : Option Value → am_H → Prop} : am_Wp (d + 1) 286 66 [.ref 205, .int x1, .int x2] [] (hp nS M) Q = am_Wp d 287 0 [.ref 205, .int x1, .int (x2 - 100), .int 0, .int 0, .retAddr 0, .retAddr 0, .retAddr 0] [] (hp nS M) (fun v h1 => am_Wp (d + 1) 286 77 [.ref 205, .int x1, .int x2] (am_ans v []) h1 Q) := by
  refine (eq_run 7 (q := (74, [.ref 205, .int x1, .int x2], [.int 0, .int 0, .int (x2 - 100), .int x1, .ref 205], hp nS M)) (by with_unfolding_all rfl)).trans ?_
  exact eq_call2 (e := (.invokevirtual 460, 3, 0, 287, 358)) (as := [.ref 205, .int x1, .int (x2 - 100), .int 0, .int 0]) (r := []) (n := 5) (m := 8) (by with_unfolding_all rfl) rfl (by decide) (by with_unfolding_all rfl) (by decide) (by with_unfolding_all rfl) ⟨fun _ => am_rec_ok (c := 14) (by with_unfolding_all rfl) (by decide +kernel), fun z => by simp at z⟩
set_option maxRecDepth 20000 in
theorem b_286_77 {d nS : Nat} {x1 x2 s0 : Int32} {M : am_M} {Q : Option Value → am_H → Prop} : am_Wp d 286 77 [.ref 205, .int x1, .int x2] [.int s0] (hp nS M) Q = am_Wp d 286 81 [.ref 205, .int x1, .int x2] [.int s0] (hp nS M) Q := by
  exact eq_run 1 (q := (81, [.ref 205, .int x1, .int x2], [.int s0], hp nS M)) (by with_unfolding_all rfl)
set_option maxRecDepth 20000 in
theorem b_286_80 {d nS : Nat} {x1 x2 : Int32} {M : am_M} {Q : Option Value → am_H → Prop} : am_Wp d 286 80 [.ref 205, .int x1, .int x2] [] (hp nS M) Q = am_Wp d 286 81 [.ref 205, .int x1, .int x2] [.int (-1)] (hp nS M) Q := by
  exact eq_run 1 (q := (81, [.ref 205, .int x1, .int x2], [.int (-1)], hp nS M)) (by with_unfolding_all rfl)
set_option maxRecDepth 20000 in
theorem b_286_81 {d nS : Nat} {x1 x2 s0 : Int32} {M : am_M} {Q : Option Value → am_H → Prop} : am_Wp d 286 81 [.ref 205, .int x1, .int x2] [.int s0] (hp nS M) Q = Q (some (.int s0)) (hp nS M) := by
  exact eq_retI2 (e := (.ireturn, 1, 0, 0, 0)) (t := .int) (by with_unfolding_all rfl) rfl (by with_unfolding_all rfl) rfl
-- sharesOf(IIZZ)I
set_option maxRecDepth 20000 in
theorem b_287_0 {d nS : Nat} {x1 x2 x3 x4 : Int32} {M : am_M} {Q : Option Value → am_H → Prop} : am_Wp d 287 0 [.ref 205, .int x1, .int x2, .int x3, .int x4, .retAddr 0, .retAddr 0, .retAddr 0] [] (hp nS M) Q = am_Wp d 287 3 [.ref 205, .int x1, .int x2, .int x3, .int x4, .int 0, .retAddr 0, .retAddr 0] [] (hp nS M) Q := by
  exact eq_run 2 (q := (3, [.ref 205, .int x1, .int x2, .int x3, .int x4, .int 0, .retAddr 0, .retAddr 0], [], hp nS M)) (by with_unfolding_all rfl)
set_option maxRecDepth 20000 in
theorem b_287_3 {d nS : Nat} {x1 x2 x3 x4 x5 : Int32} {M : am_M} {Q : Option Value → am_H → Prop} : am_Wp d 287 3 [.ref 205, .int x1, .int x2, .int x3, .int x4, .int x5, .retAddr 0, .retAddr 0] [] (hp nS M) Q = if x1 < x5 then am_Wp d 287 32 [.ref 205, .int x1, .int x2, .int x3, .int x4, .int x5, .retAddr 0, .retAddr 0] [] (hp nS M) Q else am_Wp d 287 9 [.ref 205, .int x1, .int x2, .int x3, .int x4, .int x5, .retAddr 0, .retAddr 0] [] (hp nS M) Q := by
  refine (eq_run 2 (q := (6, [.ref 205, .int x1, .int x2, .int x3, .int x4, .int x5, .retAddr 0, .retAddr 0], [.int x1, .int x5], hp nS M)) (by with_unfolding_all rfl)).trans ?_
  exact eq_cmp_gt (by with_unfolding_all rfl)
set_option maxRecDepth 20000 in
theorem b_287_9 {d nS : Nat} {x1 x2 x3 x4 x5 : Int32} {M : am_M} {Q : Option Value → am_H → Prop} : am_Wp d 287 9 [.ref 205, .int x1, .int x2, .int x3, .int x4, .int x5, .retAddr 0, .retAddr 0] [] (hp nS M) Q = if ¬ x5 = 0 then am_Wp d 287 24 [.ref 205, .int x1, .int x2, .int x3, .int x4, .int x5, .retAddr 0, .retAddr 0] [.int x5, .ref 236] (hp nS M) Q else am_Wp d 287 20 [.ref 205, .int x1, .int x2, .int x3, .int x4, .int x5, .retAddr 0, .retAddr 0] [.int x5, .ref 236] (hp nS M) Q := by
  refine (eq_run 4 (q := (17, [.ref 205, .int x1, .int x2, .int x3, .int x4, .int x5, .retAddr 0, .retAddr 0], [.int x5, .int x5, .ref 236], hp nS M)) (by with_unfolding_all rfl)).trans ?_
  exact eq_if_ne (by with_unfolding_all rfl)
set_option maxRecDepth 20000 in
theorem b_287_20 {d nS : Nat} {x1 x2 x3 x4 x5 s1 : Int32} {M : am_M} {Q : Option Value → am_H → Prop} : am_Wp d 287 20 [.ref 205, .int x1, .int x2, .int x3, .int x4, .int x5, .retAddr 0, .retAddr 0] [.int s1, .ref 236] (hp nS M) Q = am_Wp d 287 25 [.ref 205, .int x1, .int x2, .int x3, .int x4, .int x5, .retAddr 0, .retAddr 0] [.int 1, .int s1, .ref 236] (hp nS M) Q := by
  exact eq_run 2 (q := (25, [.ref 205, .int x1, .int x2, .int x3, .int x4, .int x5, .retAddr 0, .retAddr 0], [.int 1, .int s1, .ref 236], hp nS M)) (by with_unfolding_all rfl)
set_option maxRecDepth 20000 in
theorem b_287_24 {d nS : Nat} {x1 x2 x3 x4 x5 s1 : Int32} {M : am_M} {Q : Option Value → am_H → Prop} : am_Wp d 287 24 [.ref 205, .int x1, .int x2, .int x3, .int x4, .int x5, .retAddr 0, .retAddr 0] [.int s1, .ref 236] (hp nS M) Q = am_Wp d 287 25 [.ref 205, .int x1, .int x2, .int x3, .int x4, .int x5, .retAddr 0, .retAddr 0] [.int 0, .int s1, .ref 236] (hp nS M) Q := by
  exact eq_run 1 (q := (25, [.ref 205, .int x1, .int x2, .int x3, .int x4, .int x5, .retAddr 0, .retAddr 0], [.int 0, .int s1, .ref 236], hp nS M)) (by with_unfolding_all rfl)
set_option maxRecDepth 20000 in
theorem b_287_25 {d nS : Nat} {x1 x2 x3 x4 x5 s1 s2 : Int32} {M : am_M} {Q : Option Value → am_H → Prop} (h1 : vp_in s1 61) : am_Wp d 287 25 [.ref 205, .int x1, .int x2, .int x3, .int x4, .int x5, .retAddr 0, .retAddr 0] [.int s2, .int s1, .ref 236] (hp nS M) Q = am_Wp d 287 3 [.ref 205, .int x1, .int x2, .int x3, .int x4, .int (x5 + 1), .retAddr 0, .retAddr 0] [] (hp nS (am_up M 236 s1.toNatClampNeg s2)) Q := by
  refine (eq_ast (e := (.iastore, 1, 0, 0, 0)) (by with_unfolding_all rfl) rfl (n := 61) (by with_unfolding_all rfl) (by decide) h1).trans ?_
  exact eq_run 2 (q := (3, [.ref 205, .int x1, .int x2, .int x3, .int x4, .int (x5 + 1), .retAddr 0, .retAddr 0], [], hp nS (am_up M 236 s1.toNatClampNeg s2))) (by with_unfolding_all rfl)
set_option maxRecDepth 20000 in
theorem b_287_32 {d nS : Nat} {x1 x2 x3 x4 x5 : Int32} {M : am_M} {Q : Option Value → am_H → Prop} : am_Wp d 287 32 [.ref 205, .int x1, .int x2, .int x3, .int x4, .int x5, .retAddr 0, .retAddr 0] [] (hp nS M) Q = am_Wp d 287 35 [.ref 205, .int x1, .int x2, .int x3, .int x4, .int 1, .retAddr 0, .retAddr 0] [] (hp nS M) Q := by
  exact eq_run 2 (q := (35, [.ref 205, .int x1, .int x2, .int x3, .int x4, .int 1, .retAddr 0, .retAddr 0], [], hp nS M)) (by with_unfolding_all rfl)
set_option maxRecDepth 20000 in
theorem b_287_35 {d nS : Nat} {x1 x2 x3 x4 x5 : Int32} {zx6 zx7 : Value} {M : am_M} {Q : Option Value → am_H → Prop} : am_Wp d 287 35 [.ref 205, .int x1, .int x2, .int x3, .int x4, .int x5, zx6, zx7] [] (hp nS M) Q = if x2 < x5 then am_Wp d 287 118 [.ref 205, .int x1, .int x2, .int x3, .int x4, .int x5, zx6, zx7] [] (hp nS M) Q else am_Wp d 287 41 [.ref 205, .int x1, .int x2, .int x3, .int x4, .int x5, zx6, zx7] [] (hp nS M) Q := by
  refine (eq_run 2 (q := (38, [.ref 205, .int x1, .int x2, .int x3, .int x4, .int x5, zx6, zx7], [.int x2, .int x5], hp nS M)) (by with_unfolding_all rfl)).trans ?_
  exact eq_cmp_gt (by with_unfolding_all rfl)
set_option maxRecDepth 20000 in
theorem b_287_41 {d nS : Nat} {x1 x2 x3 x4 x5 : Int32} {zx6 zx7 : Value} {M : am_M} {Q : Option Value → am_H → Prop} : am_Wp d 287 41 [.ref 205, .int x1, .int x2, .int x3, .int x4, .int x5, zx6, zx7] [] (hp nS M) Q = am_Wp d 287 45 [.ref 205, .int x1, .int x2, .int x3, .int x4, .int x5, .int x5, zx7] [] (hp nS M) Q := by
  exact eq_run 2 (q := (45, [.ref 205, .int x1, .int x2, .int x3, .int x4, .int x5, .int x5, zx7], [], hp nS M)) (by with_unfolding_all rfl)
set_option maxRecDepth 20000 in
theorem b_287_45 {d nS : Nat} {x1 x2 x3 x4 x5 x6 : Int32} {zx7 : Value} {M : am_M} {Q : Option Value → am_H → Prop} : am_Wp d 287 45 [.ref 205, .int x1, .int x2, .int x3, .int x4, .int x5, .int x6, zx7] [] (hp nS M) Q = if x1 < x6 then am_Wp d 287 100 [.ref 205, .int x1, .int x2, .int x3, .int x4, .int x5, .int x6, zx7] [] (hp nS M) Q else am_Wp d 287 51 [.ref 205, .int x1, .int x2, .int x3, .int x4, .int x5, .int x6, zx7] [] (hp nS M) Q := by
  refine (eq_run 2 (q := (48, [.ref 205, .int x1, .int x2, .int x3, .int x4, .int x5, .int x6, zx7], [.int x1, .int x6], hp nS M)) (by with_unfolding_all rfl)).trans ?_
  exact eq_cmp_gt (by with_unfolding_all rfl)
set_option maxRecDepth 20000 in
theorem b_287_51 {d nS : Nat} {x1 x2 x3 x4 x5 x6 : Int32} {zx7 : Value} {M : am_M} {Q : Option Value → am_H → Prop} : am_Wp d 287 51 [.ref 205, .int x1, .int x2, .int x3, .int x4, .int x5, .int x6, zx7] [] (hp nS M) Q = if x3 = 0 then am_Wp d 287 65 [.ref 205, .int x1, .int x2, .int x3, .int x4, .int x5, .int x6, zx7] [] (hp nS M) Q else am_Wp d 287 55 [.ref 205, .int x1, .int x2, .int x3, .int x4, .int x5, .int x6, zx7] [] (hp nS M) Q := by
  refine (eq_run 1 (q := (52, [.ref 205, .int x1, .int x2, .int x3, .int x4, .int x5, .int x6, zx7], [.int x3], hp nS M)) (by with_unfolding_all rfl)).trans ?_
  exact eq_if_eq (by with_unfolding_all rfl)
set_option maxRecDepth 20000 in
theorem b_287_55 {d nS : Nat} {x1 x2 x3 x4 x5 x6 : Int32} {zx7 : Value} {M : am_M} {Q : Option Value → am_H → Prop} : am_Wp d 287 55 [.ref 205, .int x1, .int x2, .int x3, .int x4, .int x5, .int x6, zx7] [] (hp nS M) Q = am_Wp d 287 67 [.ref 205, .int x1, .int x2, .int x3, .int x4, .int x5, .int x6, zx7] [.int ((x1 + x5) - x6)] (hp nS M) Q := by
  exact eq_run 6 (q := (67, [.ref 205, .int x1, .int x2, .int x3, .int x4, .int x5, .int x6, zx7], [.int ((x1 + x5) - x6)], hp nS M)) (by with_unfolding_all rfl)
set_option maxRecDepth 20000 in
theorem b_287_65 {d nS : Nat} {x1 x2 x3 x4 x5 x6 : Int32} {zx7 : Value} {M : am_M} {Q : Option Value → am_H → Prop} : am_Wp d 287 65 [.ref 205, .int x1, .int x2, .int x3, .int x4, .int x5, .int x6, zx7] [] (hp nS M) Q = am_Wp d 287 67 [.ref 205, .int x1, .int x2, .int x3, .int x4, .int x5, .int x6, zx7] [.int x6] (hp nS M) Q := by
  exact eq_run 1 (q := (67, [.ref 205, .int x1, .int x2, .int x3, .int x4, .int x5, .int x6, zx7], [.int x6], hp nS M)) (by with_unfolding_all rfl)
set_option maxRecDepth 20000 in
theorem b_287_67 {d nS : Nat} {x1 x2 x3 x4 x5 x6 s0 : Int32} {zx7 : Value} {M : am_M} {Q : Option Value → am_H → Prop} (h1 : vp_in s0 61) (h2 : vp_in (s0 - x5) 61) (h3 : vp_in s0 61) : am_Wp d 287 67 [.ref 205, .int x1, .int x2, .int x3, .int x4, .int x5, .int x6, zx7] [.int s0] (hp nS M) Q = am_Wp d 287 45 [.ref 205, .int x1, .int x2, .int x3, .int x4, .int x5, .int (x6 + 1), .int s0] [] (hp nS (am_up M 236 s0.toNatClampNeg ((M 236 s0.toNatClampNeg) + (M 236 (s0 - x5).toNatClampNeg)))) Q := by
  refine (eq_run 7 (q := (81, [.ref 205, .int x1, .int x2, .int x3, .int x4, .int x5, .int x6, .int s0], [.int s0, .ref 236, .int s0, .ref 236], hp nS M)) (by with_unfolding_all rfl)).trans ?_
  refine (eq_ald (e := (.iaload, 1, 0, 0, 0)) (by with_unfolding_all rfl) rfl (n := 61) (by with_unfolding_all rfl) h1).trans ?_
  refine (eq_run 5 (q := (91, [.ref 205, .int x1, .int x2, .int x3, .int x4, .int x5, .int x6, .int s0], [.int (s0 - x5), .ref 236, .int (M 236 s0.toNatClampNeg), .int s0, .ref 236], hp nS M)) (by with_unfolding_all rfl)).trans ?_
  refine (eq_ald (e := (.iaload, 1, 0, 0, 0)) (by with_unfolding_all rfl) rfl (n := 61) (by with_unfolding_all rfl) h2).trans ?_
  refine (eq_run 1 (q := (93, [.ref 205, .int x1, .int x2, .int x3, .int x4, .int x5, .int x6, .int s0], [.int ((M 236 s0.toNatClampNeg) + (M 236 (s0 - x5).toNatClampNeg)), .int s0, .ref 236], hp nS M)) (by with_unfolding_all rfl)).trans ?_
  refine (eq_ast (e := (.iastore, 1, 0, 0, 0)) (by with_unfolding_all rfl) rfl (n := 61) (by with_unfolding_all rfl) (by decide) h3).trans ?_
  exact eq_run 2 (q := (45, [.ref 205, .int x1, .int x2, .int x3, .int x4, .int x5, .int (x6 + 1), .int s0], [], hp nS (am_up M 236 s0.toNatClampNeg ((M 236 s0.toNatClampNeg) + (M 236 (s0 - x5).toNatClampNeg))))) (by with_unfolding_all rfl)
set_option maxRecDepth 20000 in
theorem b_287_100 {d nS : Nat} {x1 x2 x3 x4 x5 x6 : Int32} {zx7 : Value} {M : am_M} {Q : Option Value → am_H → Prop} : am_Wp d 287 100 [.ref 205, .int x1, .int x2, .int x3, .int x4, .int x5, .int x6, zx7] [] (hp nS M) Q = if x4 = 0 then am_Wp d 287 111 [.ref 205, .int x1, .int x2, .int x3, .int x4, .int x5, .int x6, zx7] [.int x5] (hp nS M) Q else am_Wp d 287 107 [.ref 205, .int x1, .int x2, .int x3, .int x4, .int x5, .int x6, zx7] [.int x5] (hp nS M) Q := by
  refine (eq_run 2 (q := (104, [.ref 205, .int x1, .int x2, .int x3, .int x4, .int x5, .int x6, zx7], [.int x4, .int x5], hp nS M)) (by with_unfolding_all rfl)).trans ?_
  exact eq_if_eq (by with_unfolding_all rfl)
set_option maxRecDepth 20000 in
theorem b_287_107 {d nS : Nat} {x1 x2 x3 x4 x5 x6 s0 : Int32} {zx7 : Value} {M : am_M} {Q : Option Value → am_H → Prop} : am_Wp d 287 107 [.ref 205, .int x1, .int x2, .int x3, .int x4, .int x5, .int x6, zx7] [.int s0] (hp nS M) Q = am_Wp d 287 112 [.ref 205, .int x1, .int x2, .int x3, .int x4, .int x5, .int x6, zx7] [.int 2, .int s0] (hp nS M) Q := by
  exact eq_run 2 (q := (112, [.ref 205, .int x1, .int x2, .int x3, .int x4, .int x5, .int x6, zx7], [.int 2, .int s0], hp nS M)) (by with_unfolding_all rfl)
set_option maxRecDepth 20000 in
theorem b_287_111 {d nS : Nat} {x1 x2 x3 x4 x5 x6 s0 : Int32} {zx7 : Value} {M : am_M} {Q : Option Value → am_H → Prop} : am_Wp d 287 111 [.ref 205, .int x1, .int x2, .int x3, .int x4, .int x5, .int x6, zx7] [.int s0] (hp nS M) Q = am_Wp d 287 112 [.ref 205, .int x1, .int x2, .int x3, .int x4, .int x5, .int x6, zx7] [.int 1, .int s0] (hp nS M) Q := by
  exact eq_run 1 (q := (112, [.ref 205, .int x1, .int x2, .int x3, .int x4, .int x5, .int x6, zx7], [.int 1, .int s0], hp nS M)) (by with_unfolding_all rfl)
set_option maxRecDepth 20000 in
theorem b_287_112 {d nS : Nat} {x1 x2 x3 x4 x5 x6 s0 s1 : Int32} {zx7 : Value} {M : am_M} {Q : Option Value → am_H → Prop} : am_Wp d 287 112 [.ref 205, .int x1, .int x2, .int x3, .int x4, .int x5, .int x6, zx7] [.int s1, .int s0] (hp nS M) Q = am_Wp d 287 35 [.ref 205, .int x1, .int x2, .int x3, .int x4, .int (s0 + s1), .int x6, zx7] [] (hp nS M) Q := by
  exact eq_run 3 (q := (35, [.ref 205, .int x1, .int x2, .int x3, .int x4, .int (s0 + s1), .int x6, zx7], [], hp nS M)) (by with_unfolding_all rfl)
set_option maxRecDepth 20000 in
theorem b_287_118 {d nS : Nat} {x1 x2 x3 x4 x5 : Int32} {zx6 zx7 : Value} {M : am_M} {Q : Option Value → am_H → Prop} (h1 : vp_in x1 61) : am_Wp d 287 118 [.ref 205, .int x1, .int x2, .int x3, .int x4, .int x5, zx6, zx7] [] (hp nS M) Q = Q (some (.int (M 236 x1.toNatClampNeg))) (hp nS M) := by
  refine (eq_run 3 (q := (123, [.ref 205, .int x1, .int x2, .int x3, .int x4, .int x5, zx6, zx7], [.int x1, .ref 236], hp nS M)) (by with_unfolding_all rfl)).trans ?_
  refine (eq_ald (e := (.iaload, 1, 0, 0, 0)) (by with_unfolding_all rfl) rfl (n := 61) (by with_unfolding_all rfl) h1).trans ?_
  exact eq_retI2 (e := (.ireturn, 1, 0, 0, 0)) (t := .int) (by with_unfolding_all rfl) rfl (by with_unfolding_all rfl) rfl
-- game(III)I
set_option maxRecDepth 20000 in
theorem b_288_0 {d nS : Nat} {x1 x2 x3 : Int32} {M : am_M} {Q : Option Value → am_H → Prop} : am_Wp (d + 1) 288 0 [.ref 205, .int x1, .int x2, .int x3, .retAddr 0, .retAddr 0] [] (hp nS M) Q = am_Wp d 171 0 [.ref 205, .int x2, .int 1, .int 100] [] (hp nS (am_up M 205 0 0)) (fun v h1 => am_Wp (d + 1) 288 13 [.ref 205, .int x1, .int x2, .int x3, .retAddr 0, .retAddr 0] (am_ans v []) h1 Q) := by
  refine (eq_run 7 (q := (10, [.ref 205, .int x1, .int x2, .int x3, .retAddr 0, .retAddr 0], [.int 100, .int 1, .int x2, .ref 205], hp nS (am_up M 205 0 0))) (by with_unfolding_all rfl)).trans ?_
  exact eq_call2 (e := (.invokevirtual 144, 3, 0, 171, 275)) (as := [.ref 205, .int x2, .int 1, .int 100]) (r := []) (n := 4) (m := 4) (by with_unfolding_all rfl) rfl (by decide) (by with_unfolding_all rfl) (by decide) (by with_unfolding_all rfl) ⟨fun _ => am_rec_ok (c := 14) (by with_unfolding_all rfl) (by decide +kernel), fun z => by simp at z⟩
set_option maxRecDepth 20000 in
theorem b_288_13 {d nS : Nat} {x1 x2 x3 s0 : Int32} {M : am_M} {Q : Option Value → am_H → Prop} : am_Wp d 288 13 [.ref 205, .int x1, .int x2, .int x3, .retAddr 0, .retAddr 0] [.int s0] (hp nS M) Q = if s0 = 0 then am_Wp d 288 39 [.ref 205, .int x1, .int x2, .int x3, .retAddr 0, .retAddr 0] [] (hp nS M) Q else am_Wp d 288 16 [.ref 205, .int x1, .int x2, .int x3, .retAddr 0, .retAddr 0] [] (hp nS M) Q := by
  exact eq_if_eq (by with_unfolding_all rfl)
set_option maxRecDepth 20000 in
theorem b_288_16 {d nS : Nat} {x1 x2 x3 : Int32} {M : am_M} {Q : Option Value → am_H → Prop} : am_Wp (d + 1) 288 16 [.ref 205, .int x1, .int x2, .int x3, .retAddr 0, .retAddr 0] [] (hp nS M) Q = am_Wp d 171 0 [.ref 205, .int x1, .int 0, .int (x2 - 1)] [] (hp nS M) (fun v h1 => am_Wp (d + 1) 288 25 [.ref 205, .int x1, .int x2, .int x3, .retAddr 0, .retAddr 0] (am_ans v []) h1 Q) := by
  refine (eq_run 6 (q := (22, [.ref 205, .int x1, .int x2, .int x3, .retAddr 0, .retAddr 0], [.int (x2 - 1), .int 0, .int x1, .ref 205], hp nS M)) (by with_unfolding_all rfl)).trans ?_
  exact eq_call2 (e := (.invokevirtual 144, 3, 0, 171, 275)) (as := [.ref 205, .int x1, .int 0, .int (x2 - 1)]) (r := []) (n := 4) (m := 4) (by with_unfolding_all rfl) rfl (by decide) (by with_unfolding_all rfl) (by decide) (by with_unfolding_all rfl) ⟨fun _ => am_rec_ok (c := 14) (by with_unfolding_all rfl) (by decide +kernel), fun z => by simp at z⟩
set_option maxRecDepth 20000 in
theorem b_288_25 {d nS : Nat} {x1 x2 x3 s0 : Int32} {M : am_M} {Q : Option Value → am_H → Prop} : am_Wp d 288 25 [.ref 205, .int x1, .int x2, .int x3, .retAddr 0, .retAddr 0] [.int s0] (hp nS M) Q = if s0 = 0 then am_Wp d 288 39 [.ref 205, .int x1, .int x2, .int x3, .retAddr 0, .retAddr 0] [] (hp nS M) Q else am_Wp d 288 28 [.ref 205, .int x1, .int x2, .int x3, .retAddr 0, .retAddr 0] [] (hp nS M) Q := by
  exact eq_if_eq (by with_unfolding_all rfl)
set_option maxRecDepth 20000 in
theorem b_288_28 {d nS : Nat} {x1 x2 x3 : Int32} {M : am_M} {Q : Option Value → am_H → Prop} : am_Wp (d + 1) 288 28 [.ref 205, .int x1, .int x2, .int x3, .retAddr 0, .retAddr 0] [] (hp nS M) Q = am_Wp d 171 0 [.ref 205, .int x3, .int 2, .int 9] [] (hp nS M) (fun v h1 => am_Wp (d + 1) 288 36 [.ref 205, .int x1, .int x2, .int x3, .retAddr 0, .retAddr 0] (am_ans v []) h1 Q) := by
  refine (eq_run 4 (q := (33, [.ref 205, .int x1, .int x2, .int x3, .retAddr 0, .retAddr 0], [.int 9, .int 2, .int x3, .ref 205], hp nS M)) (by with_unfolding_all rfl)).trans ?_
  exact eq_call2 (e := (.invokevirtual 144, 3, 0, 171, 275)) (as := [.ref 205, .int x3, .int 2, .int 9]) (r := []) (n := 4) (m := 4) (by with_unfolding_all rfl) rfl (by decide) (by with_unfolding_all rfl) (by decide) (by with_unfolding_all rfl) ⟨fun _ => am_rec_ok (c := 14) (by with_unfolding_all rfl) (by decide +kernel), fun z => by simp at z⟩
set_option maxRecDepth 20000 in
theorem b_288_36 {d nS : Nat} {x1 x2 x3 s0 : Int32} {M : am_M} {Q : Option Value → am_H → Prop} : am_Wp d 288 36 [.ref 205, .int x1, .int x2, .int x3, .retAddr 0, .retAddr 0] [.int s0] (hp nS M) Q = if ¬ s0 = 0 then am_Wp d 288 41 [.ref 205, .int x1, .int x2, .int x3, .retAddr 0, .retAddr 0] [] (hp nS M) Q else am_Wp d 288 39 [.ref 205, .int x1, .int x2, .int x3, .retAddr 0, .retAddr 0] [] (hp nS M) Q := by
  exact eq_if_ne (by with_unfolding_all rfl)
set_option maxRecDepth 20000 in
theorem b_288_39 {d nS : Nat} {x1 x2 x3 : Int32} {M : am_M} {Q : Option Value → am_H → Prop} : am_Wp d 288 39 [.ref 205, .int x1, .int x2, .int x3, .retAddr 0, .retAddr 0] [] (hp nS M) Q = Q (some (.int (-1))) (hp nS M) := by
  refine (eq_run 1 (q := (40, [.ref 205, .int x1, .int x2, .int x3, .retAddr 0, .retAddr 0], [.int (-1)], hp nS M)) (by with_unfolding_all rfl)).trans ?_
  exact eq_retI2 (e := (.ireturn, 1, 0, 0, 0)) (t := .int) (by with_unfolding_all rfl) rfl (by with_unfolding_all rfl) rfl
set_option maxRecDepth 20000 in
theorem b_288_41 {d nS : Nat} {x1 x2 x3 : Int32} {M : am_M} {Q : Option Value → am_H → Prop} : am_Wp d 288 41 [.ref 205, .int x1, .int x2, .int x3, .retAddr 0, .retAddr 0] [] (hp nS M) Q = am_Wp d 288 46 [.ref 205, .int x1, .int x2, .int x3, .int (x2 - 1), .retAddr 0] [] (hp nS M) Q := by
  exact eq_run 4 (q := (46, [.ref 205, .int x1, .int x2, .int x3, .int (x2 - 1), .retAddr 0], [], hp nS M)) (by with_unfolding_all rfl)
set_option maxRecDepth 20000 in
theorem b_288_46 {d nS : Nat} {x1 x2 x3 x4 : Int32} {zx5 : Value} {M : am_M} {Q : Option Value → am_H → Prop} : am_Wp d 288 46 [.ref 205, .int x1, .int x2, .int x3, .int x4, zx5] [] (hp nS M) Q = if x4 ≤ x1 then am_Wp d 288 105 [.ref 205, .int x1, .int x2, .int x3, .int x4, zx5] [] (hp nS M) Q else am_Wp d 288 52 [.ref 205, .int x1, .int x2, .int x3, .int x4, zx5] [] (hp nS M) Q := by
  refine (eq_run 2 (q := (49, [.ref 205, .int x1, .int x2, .int x3, .int x4, zx5], [.int x1, .int x4], hp nS M)) (by with_unfolding_all rfl)).trans ?_
  exact eq_cmp_le (by with_unfolding_all rfl)
set_option maxRecDepth 20000 in
theorem b_288_52 {d nS : Nat} {x1 x2 x3 x4 : Int32} {zx5 : Value} {M : am_M} {Q : Option Value → am_H → Prop} : am_Wp d 288 52 [.ref 205, .int x1, .int x2, .int x3, .int x4, zx5] [] (hp nS M) Q = am_Wp d 288 55 [.ref 205, .int x1, .int x2, .int x3, .int x4, .int 1] [] (hp nS M) Q := by
  exact eq_run 2 (q := (55, [.ref 205, .int x1, .int x2, .int x3, .int x4, .int 1], [], hp nS M)) (by with_unfolding_all rfl)
set_option maxRecDepth 20000 in
theorem b_288_55 {d nS : Nat} {x1 x2 x3 x4 x5 : Int32} {M : am_M} {Q : Option Value → am_H → Prop} : am_Wp d 288 55 [.ref 205, .int x1, .int x2, .int x3, .int x4, .int x5] [] (hp nS M) Q = if x3 < x5 then am_Wp d 288 99 [.ref 205, .int x1, .int x2, .int x3, .int x4, .int x5] [] (hp nS M) Q else am_Wp d 288 61 [.ref 205, .int x1, .int x2, .int x3, .int x4, .int x5] [] (hp nS M) Q := by
  refine (eq_run 2 (q := (58, [.ref 205, .int x1, .int x2, .int x3, .int x4, .int x5], [.int x3, .int x5], hp nS M)) (by with_unfolding_all rfl)).trans ?_
  exact eq_cmp_gt (by with_unfolding_all rfl)
set_option maxRecDepth 20000 in
theorem b_288_61 {d nS : Nat} {x1 x2 x3 x4 x5 : Int32} {M : am_M} {Q : Option Value → am_H → Prop} : am_Wp (d + 1) 288 61 [.ref 205, .int x1, .int x2, .int x3, .int x4, .int x5] [] (hp nS M) Q = am_Wp d 289 0 [.ref 205, .int x4, .int x2, .int x3, .int x5, .retAddr 0] [] (hp nS M) (fun v h1 => am_Wp (d + 1) 288 83 [.ref 205, .int x1, .int x2, .int x3, .int x4, .int x5] (am_ans v [.int ((10 * x4) + x5), .ref 237]) h1 Q) := by
  refine (eq_run 12 (q := (80, [.ref 205, .int x1, .int x2, .int x3, .int x4, .int x5], [.int x5, .int x3, .int x2, .int x4, .ref 205, .int ((10 * x4) + x5), .ref 237], hp nS M)) (by with_unfolding_all rfl)).trans ?_
  exact eq_call2 (e := (.invokevirtual 464, 3, 0, 289, 359)) (as := [.ref 205, .int x4, .int x2, .int x3, .int x5]) (r := [.int ((10 * x4) + x5), .ref 237]) (n := 5) (m := 6) (by with_unfolding_all rfl) rfl (by decide) (by with_unfolding_all rfl) (by decide) (by with_unfolding_all rfl) ⟨fun _ => am_rec_ok (c := 14) (by with_unfolding_all rfl) (by decide +kernel), fun z => by simp at z⟩
set_option maxRecDepth 20000 in
theorem b_288_83 {d nS : Nat} {x1 x2 x3 x4 x5 s1 s2 : Int32} {M : am_M} {Q : Option Value → am_H → Prop} : am_Wp d 288 83 [.ref 205, .int x1, .int x2, .int x3, .int x4, .int x5] [.int s2, .int s1, .ref 237] (hp nS M) Q = if ¬ s2 = (-1) then am_Wp d 288 91 [.ref 205, .int x1, .int x2, .int x3, .int x4, .int x5] [.int s1, .ref 237] (hp nS M) Q else am_Wp d 288 87 [.ref 205, .int x1, .int x2, .int x3, .int x4, .int x5] [.int s1, .ref 237] (hp nS M) Q := by
  refine (eq_run 1 (q := (84, [.ref 205, .int x1, .int x2, .int x3, .int x4, .int x5], [.int (-1), .int s2, .int s1, .ref 237], hp nS M)) (by with_unfolding_all rfl)).trans ?_
  exact eq_cmp_ne (by with_unfolding_all rfl)
set_option maxRecDepth 20000 in
theorem b_288_87 {d nS : Nat} {x1 x2 x3 x4 x5 s1 : Int32} {M : am_M} {Q : Option Value → am_H → Prop} : am_Wp d 288 87 [.ref 205, .int x1, .int x2, .int x3, .int x4, .int x5] [.int s1, .ref 237] (hp nS M) Q = am_Wp d 288 92 [.ref 205, .int x1, .int x2, .int x3, .int x4, .int x5] [.int 0, .int s1, .ref 237] (hp nS M) Q := by
  exact eq_run 2 (q := (92, [.ref 205, .int x1, .int x2, .int x3, .int x4, .int x5], [.int 0, .int s1, .ref 237], hp nS M)) (by with_unfolding_all rfl)
set_option maxRecDepth 20000 in
theorem b_288_91 {d nS : Nat} {x1 x2 x3 x4 x5 s1 : Int32} {M : am_M} {Q : Option Value → am_H → Prop} : am_Wp d 288 91 [.ref 205, .int x1, .int x2, .int x3, .int x4, .int x5] [.int s1, .ref 237] (hp nS M) Q = am_Wp d 288 92 [.ref 205, .int x1, .int x2, .int x3, .int x4, .int x5] [.int 1, .int s1, .ref 237] (hp nS M) Q := by
  exact eq_run 1 (q := (92, [.ref 205, .int x1, .int x2, .int x3, .int x4, .int x5], [.int 1, .int s1, .ref 237], hp nS M)) (by with_unfolding_all rfl)
set_option maxRecDepth 20000 in
theorem b_288_92 {d nS : Nat} {x1 x2 x3 x4 x5 s1 s2 : Int32} {M : am_M} {Q : Option Value → am_H → Prop} (h1 : vp_in s1 1010) : am_Wp d 288 92 [.ref 205, .int x1, .int x2, .int x3, .int x4, .int x5] [.int s2, .int s1, .ref 237] (hp nS M) Q = am_Wp d 288 55 [.ref 205, .int x1, .int x2, .int x3, .int x4, .int (x5 + 1)] [] (hp nS (am_up M 237 s1.toNatClampNeg s2)) Q := by
  refine (eq_ast (e := (.iastore, 1, 0, 0, 0)) (by with_unfolding_all rfl) rfl (n := 1010) (by with_unfolding_all rfl) (by decide) h1).trans ?_
  exact eq_run 2 (q := (55, [.ref 205, .int x1, .int x2, .int x3, .int x4, .int (x5 + 1)], [], hp nS (am_up M 237 s1.toNatClampNeg s2))) (by with_unfolding_all rfl)
set_option maxRecDepth 20000 in
theorem b_288_99 {d nS : Nat} {x1 x2 x3 x4 x5 : Int32} {M : am_M} {Q : Option Value → am_H → Prop} : am_Wp d 288 99 [.ref 205, .int x1, .int x2, .int x3, .int x4, .int x5] [] (hp nS M) Q = am_Wp d 288 46 [.ref 205, .int x1, .int x2, .int x3, .int (x4 + (-1)), .int x5] [] (hp nS M) Q := by
  exact eq_run 2 (q := (46, [.ref 205, .int x1, .int x2, .int x3, .int (x4 + (-1)), .int x5], [], hp nS M)) (by with_unfolding_all rfl)
set_option maxRecDepth 20000 in
theorem b_288_105 {d nS : Nat} {x1 x2 x3 x4 : Int32} {zx5 : Value} {M : am_M} {Q : Option Value → am_H → Prop} : am_Wp (d + 1) 288 105 [.ref 205, .int x1, .int x2, .int x3, .int x4, zx5] [] (hp nS M) Q = am_Wp d 289 0 [.ref 205, .int x1, .int x2, .int x3, .int 0, .retAddr 0] [] (hp nS M) (fun v h1 => am_Wp (d + 1) 288 113 [.ref 205, .int x1, .int x2, .int x3, .int x4, zx5] (am_ans v []) h1 Q) := by
  refine (eq_run 5 (q := (110, [.ref 205, .int x1, .int x2, .int x3, .int x4, zx5], [.int 0, .int x3, .int x2, .int x1, .ref 205], hp nS M)) (by with_unfolding_all rfl)).trans ?_
  exact eq_call2 (e := (.invokevirtual 464, 3, 0, 289, 359)) (as := [.ref 205, .int x1, .int x2, .int x3, .int 0]) (r := []) (n := 5) (m := 6) (by with_unfolding_all rfl) rfl (by decide) (by with_unfolding_all rfl) (by decide) (by with_unfolding_all rfl) ⟨fun _ => am_rec_ok (c := 14) (by with_unfolding_all rfl) (by decide +kernel), fun z => by simp at z⟩
set_option maxRecDepth 20000 in
theorem b_288_113 {d nS : Nat} {x1 x2 x3 x4 s0 : Int32} {zx5 : Value} {M : am_M} {Q : Option Value → am_H → Prop} : am_Wp d 288 113 [.ref 205, .int x1, .int x2, .int x3, .int x4, zx5] [.int s0] (hp nS M) Q = Q (some (.int s0)) (hp nS M) := by
  exact eq_retI2 (e := (.ireturn, 1, 0, 0, 0)) (t := .int) (by with_unfolding_all rfl) rfl (by with_unfolding_all rfl) rfl
-- goodSending(IIII)I
set_option maxRecDepth 20000 in
theorem b_289_0 {d nS : Nat} {x1 x2 x3 x4 : Int32} {M : am_M} {Q : Option Value → am_H → Prop} : am_Wp d 289 0 [.ref 205, .int x1, .int x2, .int x3, .int x4, .retAddr 0] [] (hp nS M) Q = am_Wp d 289 3 [.ref 205, .int x1, .int x2, .int x3, .int x4, .int 1] [] (hp nS M) Q := by
  exact eq_run 2 (q := (3, [.ref 205, .int x1, .int x2, .int x3, .int x4, .int 1], [], hp nS M)) (by with_unfolding_all rfl)
set_option maxRecDepth 20000 in
theorem b_289_3 {d nS : Nat} {x1 x2 x3 x4 x5 : Int32} {M : am_M} {Q : Option Value → am_H → Prop} : am_Wp d 289 3 [.ref 205, .int x1, .int x2, .int x3, .int x4, .int x5] [] (hp nS M) Q = if x3 < x5 then am_Wp d 289 51 [.ref 205, .int x1, .int x2, .int x3, .int x4, .int x5] [] (hp nS M) Q else am_Wp d 289 9 [.ref 205, .int x1, .int x2, .int x3, .int x4, .int x5] [] (hp nS M) Q := by
  refine (eq_run 2 (q := (6, [.ref 205, .int x1, .int x2, .int x3, .int x4, .int x5], [.int x3, .int x5], hp nS M)) (by with_unfolding_all rfl)).trans ?_
  exact eq_cmp_gt (by with_unfolding_all rfl)
set_option maxRecDepth 20000 in
theorem b_289_9 {d nS : Nat} {x1 x2 x3 x4 x5 : Int32} {M : am_M} {Q : Option Value → am_H → Prop} : am_Wp d 289 9 [.ref 205, .int x1, .int x2, .int x3, .int x4, .int x5] [] (hp nS M) Q = if x2 ≤ (x1 + x5) then am_Wp d 289 51 [.ref 205, .int x1, .int x2, .int x3, .int x4, .int x5] [] (hp nS M) Q else am_Wp d 289 17 [.ref 205, .int x1, .int x2, .int x3, .int x4, .int x5] [] (hp nS M) Q := by
  refine (eq_run 4 (q := (14, [.ref 205, .int x1, .int x2, .int x3, .int x4, .int x5], [.int x2, .int (x1 + x5)], hp nS M)) (by with_unfolding_all rfl)).trans ?_
  exact eq_cmp_ge (by with_unfolding_all rfl)
set_option maxRecDepth 20000 in
theorem b_289_17 {d nS : Nat} {x1 x2 x3 x4 x5 : Int32} {M : am_M} {Q : Option Value → am_H → Prop} : am_Wp d 289 17 [.ref 205, .int x1, .int x2, .int x3, .int x4, .int x5] [] (hp nS M) Q = if x5 = x4 then am_Wp d 289 45 [.ref 205, .int x1, .int x2, .int x3, .int x4, .int x5] [] (hp nS M) Q else am_Wp d 289 24 [.ref 205, .int x1, .int x2, .int x3, .int x4, .int x5] [] (hp nS M) Q := by
  refine (eq_run 2 (q := (21, [.ref 205, .int x1, .int x2, .int x3, .int x4, .int x5], [.int x4, .int x5], hp nS M)) (by with_unfolding_all rfl)).trans ?_
  exact eq_cmp_eq (by with_unfolding_all rfl)
set_option maxRecDepth 20000 in
theorem b_289_24 {d nS : Nat} {x1 x2 x3 x4 x5 : Int32} {M : am_M} {Q : Option Value → am_H → Prop} (h1 : vp_in ((10 * (x1 + x5)) + x5) 1010) : am_Wp d 289 24 [.ref 205, .int x1, .int x2, .int x3, .int x4, .int x5] [] (hp nS M) Q = if ¬ (M 237 ((10 * (x1 + x5)) + x5).toNatClampNeg) = 0 then am_Wp d 289 45 [.ref 205, .int x1, .int x2, .int x3, .int x4, .int x5] [] (hp nS M) Q else am_Wp d 289 42 [.ref 205, .int x1, .int x2, .int x3, .int x4, .int x5] [] (hp nS M) Q := by
  refine (eq_run 9 (q := (38, [.ref 205, .int x1, .int x2, .int x3, .int x4, .int x5], [.int ((10 * (x1 + x5)) + x5), .ref 237], hp nS M)) (by with_unfolding_all rfl)).trans ?_
  refine (eq_ald (e := (.iaload, 1, 0, 0, 0)) (by with_unfolding_all rfl) rfl (n := 1010) (by with_unfolding_all rfl) h1).trans ?_
  exact eq_if_ne (by with_unfolding_all rfl)
set_option maxRecDepth 20000 in
theorem b_289_42 {d nS : Nat} {x1 x2 x3 x4 x5 : Int32} {M : am_M} {Q : Option Value → am_H → Prop} : am_Wp d 289 42 [.ref 205, .int x1, .int x2, .int x3, .int x4, .int x5] [] (hp nS M) Q = Q (some (.int x5)) (hp nS M) := by
  refine (eq_run 1 (q := (44, [.ref 205, .int x1, .int x2, .int x3, .int x4, .int x5], [.int x5], hp nS M)) (by with_unfolding_all rfl)).trans ?_
  exact eq_retI2 (e := (.ireturn, 1, 0, 0, 0)) (t := .int) (by with_unfolding_all rfl) rfl (by with_unfolding_all rfl) rfl
set_option maxRecDepth 20000 in
theorem b_289_45 {d nS : Nat} {x1 x2 x3 x4 x5 : Int32} {M : am_M} {Q : Option Value → am_H → Prop} : am_Wp d 289 45 [.ref 205, .int x1, .int x2, .int x3, .int x4, .int x5] [] (hp nS M) Q = am_Wp d 289 3 [.ref 205, .int x1, .int x2, .int x3, .int x4, .int (x5 + 1)] [] (hp nS M) Q := by
  exact eq_run 2 (q := (3, [.ref 205, .int x1, .int x2, .int x3, .int x4, .int (x5 + 1)], [], hp nS M)) (by with_unfolding_all rfl)
set_option maxRecDepth 20000 in
theorem b_289_51 {d nS : Nat} {x1 x2 x3 x4 x5 : Int32} {M : am_M} {Q : Option Value → am_H → Prop} : am_Wp d 289 51 [.ref 205, .int x1, .int x2, .int x3, .int x4, .int x5] [] (hp nS M) Q = Q (some (.int (-1))) (hp nS M) := by
  refine (eq_run 1 (q := (52, [.ref 205, .int x1, .int x2, .int x3, .int x4, .int x5], [.int (-1)], hp nS M)) (by with_unfolding_all rfl)).trans ?_
  exact eq_retI2 (e := (.ireturn, 1, 0, 0, 0)) (t := .int) (by with_unfolding_all rfl) rfl (by with_unfolding_all rfl) rfl
-- image(Z)Z
set_option maxRecDepth 20000 in
theorem b_290_0 {d nS : Nat} {x1 : Int32} {M : am_M} {Q : Option Value → am_H → Prop} : am_Wp d 290 0 [.ref 205, .int x1, .retAddr 0] [] (hp nS M) Q = if ¬ x1 = 0 then am_Wp d 290 18 [.ref 205, .int x1, .retAddr 0] [] (hp nS (am_up M 205 0 0)) Q else am_Wp d 290 9 [.ref 205, .int x1, .retAddr 0] [] (hp nS (am_up M 205 0 0)) Q := by
  refine (eq_run 4 (q := (6, [.ref 205, .int x1, .retAddr 0], [.int x1], hp nS (am_up M 205 0 0))) (by with_unfolding_all rfl)).trans ?_
  exact eq_if_ne (by with_unfolding_all rfl)
set_option maxRecDepth 20000 in
theorem b_290_9 {d nS : Nat} {x1 : Int32} {M : am_M} {Q : Option Value → am_H → Prop} : am_Wp d 290 9 [.ref 205, .int x1, .retAddr 0] [] (hp nS M) Q = if ¬ (M 205 60) = 0 then am_Wp d 290 18 [.ref 205, .int x1, .retAddr 0] [] (hp nS M) Q else am_Wp d 290 16 [.ref 205, .int x1, .retAddr 0] [] (hp nS M) Q := by
  refine (eq_run 2 (q := (13, [.ref 205, .int x1, .retAddr 0], [.int (M 205 60)], hp nS M)) (by with_unfolding_all rfl)).trans ?_
  exact eq_if_ne (by with_unfolding_all rfl)
set_option maxRecDepth 20000 in
theorem b_290_16 {d nS : Nat} {x1 : Int32} {M : am_M} {Q : Option Value → am_H → Prop} : am_Wp d 290 16 [.ref 205, .int x1, .retAddr 0] [] (hp nS M) Q = Q (some (.int 0)) (hp nS M) := by
  refine (eq_run 1 (q := (17, [.ref 205, .int x1, .retAddr 0], [.int 0], hp nS M)) (by with_unfolding_all rfl)).trans ?_
  exact eq_retI2 (e := (.ireturn, 1, 0, 0, 0)) (t := .boolean) (by with_unfolding_all rfl) rfl (by with_unfolding_all rfl) rfl
-- b_290_18: putfield bool
-- look(I)I
set_option maxRecDepth 20000 in
theorem b_294_0 {d nS : Nat} {x1 : Int32} {M : am_M} {Q : Option Value → am_H → Prop} : am_Wp d 294 0 [.ref 205, .int x1] [] (hp nS M) Q = if ¬ x1 = 0 then am_Wp d 294 14 [.ref 205, .int x1] [] (hp nS (am_up M 205 0 0)) Q else am_Wp d 294 9 [.ref 205, .int x1] [] (hp nS (am_up M 205 0 0)) Q := by
  refine (eq_run 4 (q := (6, [.ref 205, .int x1], [.int x1], hp nS (am_up M 205 0 0))) (by with_unfolding_all rfl)).trans ?_
  exact eq_if_ne (by with_unfolding_all rfl)
set_option maxRecDepth 20000 in
theorem b_294_9 {d nS : Nat} {x1 : Int32} {M : am_M} {Q : Option Value → am_H → Prop} : am_Wp d 294 9 [.ref 205, .int x1] [] (hp nS M) Q = Q (some (.int (M 205 8))) (hp nS M) := by
  refine (eq_run 2 (q := (13, [.ref 205, .int x1], [.int (M 205 8)], hp nS M)) (by with_unfolding_all rfl)).trans ?_
  exact eq_retI2 (e := (.ireturn, 1, 0, 0, 0)) (t := .int) (by with_unfolding_all rfl) rfl (by with_unfolding_all rfl) rfl
set_option maxRecDepth 20000 in
theorem b_294_14 {d nS : Nat} {x1 : Int32} {M : am_M} {Q : Option Value → am_H → Prop} : am_Wp d 294 14 [.ref 205, .int x1] [] (hp nS M) Q = if ¬ x1 = 1 then am_Wp d 294 24 [.ref 205, .int x1] [] (hp nS M) Q else am_Wp d 294 19 [.ref 205, .int x1] [] (hp nS M) Q := by
  refine (eq_run 2 (q := (16, [.ref 205, .int x1], [.int 1, .int x1], hp nS M)) (by with_unfolding_all rfl)).trans ?_
  exact eq_cmp_ne (by with_unfolding_all rfl)
set_option maxRecDepth 20000 in
theorem b_294_19 {d nS : Nat} {x1 : Int32} {M : am_M} {Q : Option Value → am_H → Prop} : am_Wp d 294 19 [.ref 205, .int x1] [] (hp nS M) Q = Q (some (.int (M 205 9))) (hp nS M) := by
  refine (eq_run 2 (q := (23, [.ref 205, .int x1], [.int (M 205 9)], hp nS M)) (by with_unfolding_all rfl)).trans ?_
  exact eq_retI2 (e := (.ireturn, 1, 0, 0, 0)) (t := .int) (by with_unfolding_all rfl) rfl (by with_unfolding_all rfl) rfl
set_option maxRecDepth 20000 in
theorem b_294_24 {d nS : Nat} {x1 : Int32} {M : am_M} {Q : Option Value → am_H → Prop} : am_Wp d 294 24 [.ref 205, .int x1] [] (hp nS M) Q = if ¬ x1 = 2 then am_Wp d 294 34 [.ref 205, .int x1] [] (hp nS M) Q else am_Wp d 294 29 [.ref 205, .int x1] [] (hp nS M) Q := by
  refine (eq_run 2 (q := (26, [.ref 205, .int x1], [.int 2, .int x1], hp nS M)) (by with_unfolding_all rfl)).trans ?_
  exact eq_cmp_ne (by with_unfolding_all rfl)
set_option maxRecDepth 20000 in
theorem b_294_29 {d nS : Nat} {x1 : Int32} {M : am_M} {Q : Option Value → am_H → Prop} : am_Wp d 294 29 [.ref 205, .int x1] [] (hp nS M) Q = Q (some (.int (M 205 10))) (hp nS M) := by
  refine (eq_run 2 (q := (33, [.ref 205, .int x1], [.int (M 205 10)], hp nS M)) (by with_unfolding_all rfl)).trans ?_
  exact eq_retI2 (e := (.ireturn, 1, 0, 0, 0)) (t := .int) (by with_unfolding_all rfl) rfl (by with_unfolding_all rfl) rfl
set_option maxRecDepth 20000 in
theorem b_294_34 {d nS : Nat} {x1 : Int32} {M : am_M} {Q : Option Value → am_H → Prop} : am_Wp d 294 34 [.ref 205, .int x1] [] (hp nS M) Q = if ¬ x1 = 3 then am_Wp d 294 46 [.ref 205, .int x1] [] (hp nS M) Q else am_Wp d 294 39 [.ref 205, .int x1] [] (hp nS M) Q := by
  refine (eq_run 2 (q := (36, [.ref 205, .int x1], [.int 3, .int x1], hp nS M)) (by with_unfolding_all rfl)).trans ?_
  exact eq_cmp_ne (by with_unfolding_all rfl)
set_option maxRecDepth 20000 in
theorem b_294_39 {d nS : Nat} {x1 : Int32} {M : am_M} {Q : Option Value → am_H → Prop} : am_Wp d 294 39 [.ref 205, .int x1] [] (hp nS M) Q = Q (some (.int (M 206 3))) (hp nS M) := by
  refine (eq_run 4 (q := (45, [.ref 205, .int x1], [.int (M 206 3)], hp nS M)) (by with_unfolding_all rfl)).trans ?_
  exact eq_retI2 (e := (.ireturn, 1, 0, 0, 0)) (t := .int) (by with_unfolding_all rfl) rfl (by with_unfolding_all rfl) rfl
set_option maxRecDepth 20000 in
theorem b_294_46 {d nS : Nat} {x1 : Int32} {M : am_M} {Q : Option Value → am_H → Prop} : am_Wp d 294 46 [.ref 205, .int x1] [] (hp nS M) Q = if ¬ x1 = 4 then am_Wp d 294 62 [.ref 205, .int x1] [] (hp nS M) Q else am_Wp d 294 51 [.ref 205, .int x1] [] (hp nS M) Q := by
  refine (eq_run 2 (q := (48, [.ref 205, .int x1], [.int 4, .int x1], hp nS M)) (by with_unfolding_all rfl)).trans ?_
  exact eq_cmp_ne (by with_unfolding_all rfl)
set_option maxRecDepth 20000 in
theorem b_294_51 {d nS : Nat} {x1 : Int32} {M : am_M} {Q : Option Value → am_H → Prop} : am_Wp (d + 1) 294 51 [.ref 205, .int x1] [] (hp nS M) Q = am_Wp d 295 0 [.ref 205, .int 16, .int (M 205 8), .retAddr 0, .retAddr 0] [] (hp nS M) (fun v h1 => am_Wp (d + 1) 294 61 [.ref 205, .int x1] (am_ans v []) h1 Q) := by
  refine (eq_run 4 (q := (58, [.ref 205, .int x1], [.int (M 205 8), .int 16, .ref 205], hp nS M)) (by with_unfolding_all rfl)).trans ?_
  exact eq_call2 (e := (.invokevirtual 485, 3, 0, 295, 363)) (as := [.ref 205, .int 16, .int (M 205 8)]) (r := []) (n := 3) (m := 5) (by with_unfolding_all rfl) rfl (by decide) (by with_unfolding_all rfl) (by decide) (by with_unfolding_all rfl) ⟨fun _ => am_rec_ok (c := 14) (by with_unfolding_all rfl) (by decide +kernel), fun z => by simp at z⟩
set_option maxRecDepth 20000 in
theorem b_294_61 {d nS : Nat} {x1 s0 : Int32} {M : am_M} {Q : Option Value → am_H → Prop} : am_Wp d 294 61 [.ref 205, .int x1] [.int s0] (hp nS M) Q = Q (some (.int s0)) (hp nS M) := by
  exact eq_retI2 (e := (.ireturn, 1, 0, 0, 0)) (t := .int) (by with_unfolding_all rfl) rfl (by with_unfolding_all rfl) rfl
set_option maxRecDepth 20000 in
theorem b_294_62 {d nS : Nat} {x1 : Int32} {M : am_M} {Q : Option Value → am_H → Prop} : am_Wp d 294 62 [.ref 205, .int x1] [] (hp nS M) Q = if ¬ x1 = 5 then am_Wp d 294 78 [.ref 205, .int x1] [] (hp nS M) Q else am_Wp d 294 67 [.ref 205, .int x1] [] (hp nS M) Q := by
  refine (eq_run 2 (q := (64, [.ref 205, .int x1], [.int 5, .int x1], hp nS M)) (by with_unfolding_all rfl)).trans ?_
  exact eq_cmp_ne (by with_unfolding_all rfl)
set_option maxRecDepth 20000 in
theorem b_294_67 {d nS : Nat} {x1 : Int32} {M : am_M} {Q : Option Value → am_H → Prop} : am_Wp (d + 1) 294 67 [.ref 205, .int x1] [] (hp nS M) Q = am_Wp d 295 0 [.ref 205, .int 46, .int (M 205 10), .retAddr 0, .retAddr 0] [] (hp nS M) (fun v h1 => am_Wp (d + 1) 294 77 [.ref 205, .int x1] (am_ans v []) h1 Q) := by
  refine (eq_run 4 (q := (74, [.ref 205, .int x1], [.int (M 205 10), .int 46, .ref 205], hp nS M)) (by with_unfolding_all rfl)).trans ?_
  exact eq_call2 (e := (.invokevirtual 485, 3, 0, 295, 363)) (as := [.ref 205, .int 46, .int (M 205 10)]) (r := []) (n := 3) (m := 5) (by with_unfolding_all rfl) rfl (by decide) (by with_unfolding_all rfl) (by decide) (by with_unfolding_all rfl) ⟨fun _ => am_rec_ok (c := 14) (by with_unfolding_all rfl) (by decide +kernel), fun z => by simp at z⟩
set_option maxRecDepth 20000 in
theorem b_294_77 {d nS : Nat} {x1 s0 : Int32} {M : am_M} {Q : Option Value → am_H → Prop} : am_Wp d 294 77 [.ref 205, .int x1] [.int s0] (hp nS M) Q = Q (some (.int s0)) (hp nS M) := by
  exact eq_retI2 (e := (.ireturn, 1, 0, 0, 0)) (t := .int) (by with_unfolding_all rfl) rfl (by with_unfolding_all rfl) rfl
set_option maxRecDepth 20000 in
theorem b_294_78 {d nS : Nat} {x1 : Int32} {M : am_M} {Q : Option Value → am_H → Prop} : am_Wp d 294 78 [.ref 205, .int x1] [] (hp nS M) Q = if ¬ x1 = 6 then am_Wp d 294 91 [.ref 205, .int x1] [] (hp nS M) Q else am_Wp d 294 84 [.ref 205, .int x1] [] (hp nS M) Q := by
  refine (eq_run 2 (q := (81, [.ref 205, .int x1], [.int 6, .int x1], hp nS M)) (by with_unfolding_all rfl)).trans ?_
  exact eq_cmp_ne (by with_unfolding_all rfl)
set_option maxRecDepth 20000 in
theorem b_294_84 {d nS : Nat} {x1 : Int32} {M : am_M} {Q : Option Value → am_H → Prop} : am_Wp d 294 84 [.ref 205, .int x1] [] (hp nS M) Q = Q (some (.int (M 206 0))) (hp nS M) := by
  refine (eq_run 4 (q := (90, [.ref 205, .int x1], [.int (M 206 0)], hp nS M)) (by with_unfolding_all rfl)).trans ?_
  exact eq_retI2 (e := (.ireturn, 1, 0, 0, 0)) (t := .int) (by with_unfolding_all rfl) rfl (by with_unfolding_all rfl) rfl
set_option maxRecDepth 20000 in
theorem b_294_91 {d nS : Nat} {x1 : Int32} {M : am_M} {Q : Option Value → am_H → Prop} : am_Wp d 294 91 [.ref 205, .int x1] [] (hp nS M) Q = if ¬ x1 = 7 then am_Wp d 294 104 [.ref 205, .int x1] [] (hp nS M) Q else am_Wp d 294 97 [.ref 205, .int x1] [] (hp nS M) Q := by
  refine (eq_run 2 (q := (94, [.ref 205, .int x1], [.int 7, .int x1], hp nS M)) (by with_unfolding_all rfl)).trans ?_
  exact eq_cmp_ne (by with_unfolding_all rfl)
set_option maxRecDepth 20000 in
theorem b_294_97 {d nS : Nat} {x1 : Int32} {M : am_M} {Q : Option Value → am_H → Prop} : am_Wp d 294 97 [.ref 205, .int x1] [] (hp nS M) Q = Q (some (.int (M 206 2))) (hp nS M) := by
  refine (eq_run 4 (q := (103, [.ref 205, .int x1], [.int (M 206 2)], hp nS M)) (by with_unfolding_all rfl)).trans ?_
  exact eq_retI2 (e := (.ireturn, 1, 0, 0, 0)) (t := .int) (by with_unfolding_all rfl) rfl (by with_unfolding_all rfl) rfl
set_option maxRecDepth 20000 in
theorem b_294_104 {d nS : Nat} {x1 : Int32} {M : am_M} {Q : Option Value → am_H → Prop} : am_Wp d 294 104 [.ref 205, .int x1] [] (hp nS M) Q = if ¬ x1 = 8 then am_Wp d 294 117 [.ref 205, .int x1] [] (hp nS M) Q else am_Wp d 294 110 [.ref 205, .int x1] [] (hp nS M) Q := by
  refine (eq_run 2 (q := (107, [.ref 205, .int x1], [.int 8, .int x1], hp nS M)) (by with_unfolding_all rfl)).trans ?_
  exact eq_cmp_ne (by with_unfolding_all rfl)
set_option maxRecDepth 20000 in
theorem b_294_110 {d nS : Nat} {x1 : Int32} {M : am_M} {Q : Option Value → am_H → Prop} : am_Wp d 294 110 [.ref 205, .int x1] [] (hp nS M) Q = Q (some (.int (M 206 1))) (hp nS M) := by
  refine (eq_run 4 (q := (116, [.ref 205, .int x1], [.int (M 206 1)], hp nS M)) (by with_unfolding_all rfl)).trans ?_
  exact eq_retI2 (e := (.ireturn, 1, 0, 0, 0)) (t := .int) (by with_unfolding_all rfl) rfl (by with_unfolding_all rfl) rfl
set_option maxRecDepth 20000 in
theorem b_294_117 {d nS : Nat} {x1 : Int32} {M : am_M} {Q : Option Value → am_H → Prop} : am_Wp d 294 117 [.ref 205, .int x1] [] (hp nS M) Q = if ¬ x1 = 9 then am_Wp d 294 130 [.ref 205, .int x1] [] (hp nS M) Q else am_Wp d 294 123 [.ref 205, .int x1] [] (hp nS M) Q := by
  refine (eq_run 2 (q := (120, [.ref 205, .int x1], [.int 9, .int x1], hp nS M)) (by with_unfolding_all rfl)).trans ?_
  exact eq_cmp_ne (by with_unfolding_all rfl)
set_option maxRecDepth 20000 in
theorem b_294_123 {d nS : Nat} {x1 : Int32} {M : am_M} {Q : Option Value → am_H → Prop} : am_Wp d 294 123 [.ref 205, .int x1] [] (hp nS M) Q = Q (some (.int (M 214 0))) (hp nS M) := by
  refine (eq_run 4 (q := (129, [.ref 205, .int x1], [.int (M 214 0)], hp nS M)) (by with_unfolding_all rfl)).trans ?_
  exact eq_retI2 (e := (.ireturn, 1, 0, 0, 0)) (t := .int) (by with_unfolding_all rfl) rfl (by with_unfolding_all rfl) rfl
set_option maxRecDepth 20000 in
theorem b_294_130 {d nS : Nat} {x1 : Int32} {M : am_M} {Q : Option Value → am_H → Prop} : am_Wp d 294 130 [.ref 205, .int x1] [] (hp nS M) Q = if ¬ x1 = 10 then am_Wp d 294 141 [.ref 205, .int x1] [] (hp nS M) Q else am_Wp d 294 136 [.ref 205, .int x1] [] (hp nS M) Q := by
  refine (eq_run 2 (q := (133, [.ref 205, .int x1], [.int 10, .int x1], hp nS M)) (by with_unfolding_all rfl)).trans ?_
  exact eq_cmp_ne (by with_unfolding_all rfl)
set_option maxRecDepth 20000 in
theorem b_294_136 {d nS : Nat} {x1 : Int32} {M : am_M} {Q : Option Value → am_H → Prop} : am_Wp d 294 136 [.ref 205, .int x1] [] (hp nS M) Q = Q (some (.int (M 205 37))) (hp nS M) := by
  refine (eq_run 2 (q := (140, [.ref 205, .int x1], [.int (M 205 37)], hp nS M)) (by with_unfolding_all rfl)).trans ?_
  exact eq_retI2 (e := (.ireturn, 1, 0, 0, 0)) (t := .int) (by with_unfolding_all rfl) rfl (by with_unfolding_all rfl) rfl
set_option maxRecDepth 20000 in
theorem b_294_141 {d nS : Nat} {x1 : Int32} {M : am_M} {Q : Option Value → am_H → Prop} : am_Wp d 294 141 [.ref 205, .int x1] [] (hp nS M) Q = if ¬ x1 = 11 then am_Wp d 294 152 [.ref 205, .int x1] [] (hp nS M) Q else am_Wp d 294 147 [.ref 205, .int x1] [] (hp nS M) Q := by
  refine (eq_run 2 (q := (144, [.ref 205, .int x1], [.int 11, .int x1], hp nS M)) (by with_unfolding_all rfl)).trans ?_
  exact eq_cmp_ne (by with_unfolding_all rfl)
set_option maxRecDepth 20000 in
theorem b_294_147 {d nS : Nat} {x1 : Int32} {M : am_M} {Q : Option Value → am_H → Prop} : am_Wp d 294 147 [.ref 205, .int x1] [] (hp nS M) Q = Q (some (.int (M 205 39))) (hp nS M) := by
  refine (eq_run 2 (q := (151, [.ref 205, .int x1], [.int (M 205 39)], hp nS M)) (by with_unfolding_all rfl)).trans ?_
  exact eq_retI2 (e := (.ireturn, 1, 0, 0, 0)) (t := .int) (by with_unfolding_all rfl) rfl (by with_unfolding_all rfl) rfl
set_option maxRecDepth 20000 in
theorem b_294_152 {d nS : Nat} {x1 : Int32} {M : am_M} {Q : Option Value → am_H → Prop} : am_Wp d 294 152 [.ref 205, .int x1] [] (hp nS M) Q = if ¬ x1 = 12 then am_Wp d 294 163 [.ref 205, .int x1] [] (hp nS M) Q else am_Wp d 294 158 [.ref 205, .int x1] [] (hp nS M) Q := by
  refine (eq_run 2 (q := (155, [.ref 205, .int x1], [.int 12, .int x1], hp nS M)) (by with_unfolding_all rfl)).trans ?_
  exact eq_cmp_ne (by with_unfolding_all rfl)
set_option maxRecDepth 20000 in
theorem b_294_158 {d nS : Nat} {x1 : Int32} {M : am_M} {Q : Option Value → am_H → Prop} : am_Wp d 294 158 [.ref 205, .int x1] [] (hp nS M) Q = Q (some (.int (M 205 41))) (hp nS M) := by
  refine (eq_run 2 (q := (162, [.ref 205, .int x1], [.int (M 205 41)], hp nS M)) (by with_unfolding_all rfl)).trans ?_
  exact eq_retI2 (e := (.ireturn, 1, 0, 0, 0)) (t := .int) (by with_unfolding_all rfl) rfl (by with_unfolding_all rfl) rfl
set_option maxRecDepth 20000 in
theorem b_294_163 {d nS : Nat} {x1 : Int32} {M : am_M} {Q : Option Value → am_H → Prop} : am_Wp d 294 163 [.ref 205, .int x1] [] (hp nS M) Q = if ¬ x1 = 13 then am_Wp d 294 176 [.ref 205, .int x1] [] (hp nS M) Q else am_Wp d 294 169 [.ref 205, .int x1] [] (hp nS M) Q := by
  refine (eq_run 2 (q := (166, [.ref 205, .int x1], [.int 13, .int x1], hp nS M)) (by with_unfolding_all rfl)).trans ?_
  exact eq_cmp_ne (by with_unfolding_all rfl)
set_option maxRecDepth 20000 in
theorem b_294_169 {d nS : Nat} {x1 : Int32} {M : am_M} {Q : Option Value → am_H → Prop} : am_Wp d 294 169 [.ref 205, .int x1] [] (hp nS M) Q = am_Wp d 294 179 [.ref 205, .int x1] [.int (M 205 5)] (hp nS M) Q := by
  exact eq_run 3 (q := (179, [.ref 205, .int x1], [.int (M 205 5)], hp nS M)) (by with_unfolding_all rfl)
set_option maxRecDepth 20000 in
theorem b_294_176 {d nS : Nat} {x1 : Int32} {M : am_M} {Q : Option Value → am_H → Prop} : am_Wp d 294 176 [.ref 205, .int x1] [] (hp nS M) Q = am_Wp d 294 179 [.ref 205, .int x1] [.int (-100000)] (hp nS M) Q := by
  exact eq_run 1 (q := (179, [.ref 205, .int x1], [.int (-100000)], hp nS M)) (by with_unfolding_all rfl)
set_option maxRecDepth 20000 in
theorem b_294_179 {d nS : Nat} {x1 s0 : Int32} {M : am_M} {Q : Option Value → am_H → Prop} : am_Wp d 294 179 [.ref 205, .int x1] [.int s0] (hp nS M) Q = Q (some (.int s0)) (hp nS M) := by
  exact eq_retI2 (e := (.ireturn, 1, 0, 0, 0)) (t := .int) (by with_unfolding_all rfl) rfl (by with_unfolding_all rfl) rfl
-- setOf(II)I
set_option maxRecDepth 20000 in
theorem b_295_0 {d nS : Nat} {x1 x2 : Int32} {M : am_M} {Q : Option Value → am_H → Prop} : am_Wp d 295 0 [.ref 205, .int x1, .int x2, .retAddr 0, .retAddr 0] [] (hp nS M) Q = am_Wp d 295 5 [.ref 205, .int x1, .int x2, .int 0, .int 0] [] (hp nS M) Q := by
  exact eq_run 4 (q := (5, [.ref 205, .int x1, .int x2, .int 0, .int 0], [], hp nS M)) (by with_unfolding_all rfl)
set_option maxRecDepth 20000 in
theorem b_295_5 {d nS : Nat} {x1 x2 x3 x4 : Int32} {M : am_M} {Q : Option Value → am_H → Prop} : am_Wp d 295 5 [.ref 205, .int x1, .int x2, .int x3, .int x4] [] (hp nS M) Q = if x2 ≤ x4 then am_Wp d 295 37 [.ref 205, .int x1, .int x2, .int x3, .int x4] [] (hp nS M) Q else am_Wp d 295 11 [.ref 205, .int x1, .int x2, .int x3, .int x4] [] (hp nS M) Q := by
  refine (eq_run 2 (q := (8, [.ref 205, .int x1, .int x2, .int x3, .int x4], [.int x2, .int x4], hp nS M)) (by with_unfolding_all rfl)).trans ?_
  exact eq_cmp_ge (by with_unfolding_all rfl)
set_option maxRecDepth 20000 in
theorem b_295_11 {d nS : Nat} {x1 x2 x3 x4 : Int32} {M : am_M} {Q : Option Value → am_H → Prop} (h1 : vp_in (x1 + x4) 136) : am_Wp d 295 11 [.ref 205, .int x1, .int x2, .int x3, .int x4] [] (hp nS M) Q = if ¬ (M 206 (x1 + x4).toNatClampNeg) = 1 then am_Wp d 295 31 [.ref 205, .int x1, .int x2, .int x3, .int x4] [] (hp nS M) Q else am_Wp d 295 24 [.ref 205, .int x1, .int x2, .int x3, .int x4] [] (hp nS M) Q := by
  refine (eq_run 5 (q := (19, [.ref 205, .int x1, .int x2, .int x3, .int x4], [.int (x1 + x4), .ref 206], hp nS M)) (by with_unfolding_all rfl)).trans ?_
  refine (eq_ald (e := (.iaload, 1, 0, 0, 0)) (by with_unfolding_all rfl) rfl (n := 136) (by with_unfolding_all rfl) h1).trans ?_
  refine (eq_run 1 (q := (21, [.ref 205, .int x1, .int x2, .int x3, .int x4], [.int 1, .int (M 206 (x1 + x4).toNatClampNeg)], hp nS M)) (by with_unfolding_all rfl)).trans ?_
  exact eq_cmp_ne (by with_unfolding_all rfl)
set_option maxRecDepth 20000 in
theorem b_295_24 {d nS : Nat} {x1 x2 x3 x4 : Int32} {M : am_M} {Q : Option Value → am_H → Prop} : am_Wp d 295 24 [.ref 205, .int x1, .int x2, .int x3, .int x4] [] (hp nS M) Q = am_Wp d 295 31 [.ref 205, .int x1, .int x2, .int (x3 ||| (1 <<< (x4 &&& 31))), .int x4] [] (hp nS M) Q := by
  exact eq_run 6 (q := (31, [.ref 205, .int x1, .int x2, .int (x3 ||| (1 <<< (x4 &&& 31))), .int x4], [], hp nS M)) (by with_unfolding_all rfl)
set_option maxRecDepth 20000 in
theorem b_295_31 {d nS : Nat} {x1 x2 x3 x4 : Int32} {M : am_M} {Q : Option Value → am_H → Prop} : am_Wp d 295 31 [.ref 205, .int x1, .int x2, .int x3, .int x4] [] (hp nS M) Q = am_Wp d 295 5 [.ref 205, .int x1, .int x2, .int x3, .int (x4 + 1)] [] (hp nS M) Q := by
  exact eq_run 2 (q := (5, [.ref 205, .int x1, .int x2, .int x3, .int (x4 + 1)], [], hp nS M)) (by with_unfolding_all rfl)
set_option maxRecDepth 20000 in
theorem b_295_37 {d nS : Nat} {x1 x2 x3 x4 : Int32} {M : am_M} {Q : Option Value → am_H → Prop} : am_Wp d 295 37 [.ref 205, .int x1, .int x2, .int x3, .int x4] [] (hp nS M) Q = Q (some (.int x3)) (hp nS M) := by
  refine (eq_run 1 (q := (38, [.ref 205, .int x1, .int x2, .int x3, .int x4], [.int x3], hp nS M)) (by with_unfolding_all rfl)).trans ?_
  exact eq_retI2 (e := (.ireturn, 1, 0, 0, 0)) (t := .int) (by with_unfolding_all rfl) rfl (by with_unfolding_all rfl) rfl
