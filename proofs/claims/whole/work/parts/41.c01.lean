-- LarkExchange$Law joined(III)I (23, (None, None, None))
set_option maxRecDepth 20000 in
theorem b_23_0 {d nS : Nat} {x0 x1 x2 : Int32} {M : am_M} {Q : Option Value → am_H → Prop} : am_Wp d 23 0 [.int x0, .int x1, .int x2] [] (hp nS M) Q = if x0 = 5 then am_Wp d 23 133 [.int x0, .int x1, .int x2] [] (hp nS M) Q else if x0 = 27 then am_Wp d 23 76 [.int x0, .int x1, .int x2] [] (hp nS M) Q else if x0 = 28 then am_Wp d 23 80 [.int x0, .int x1, .int x2] [] (hp nS M) Q else if x0 = 29 then am_Wp d 23 84 [.int x0, .int x1, .int x2] [] (hp nS M) Q else if x0 = 30 then am_Wp d 23 88 [.int x0, .int x1, .int x2] [] (hp nS M) Q else if x0 = 33 then am_Wp d 23 100 [.int x0, .int x1, .int x2] [] (hp nS M) Q else if x0 = 34 then am_Wp d 23 111 [.int x0, .int x1, .int x2] [] (hp nS M) Q else if x0 = 35 then am_Wp d 23 122 [.int x0, .int x1, .int x2] [] (hp nS M) Q else am_Wp d 23 137 [.int x0, .int x1, .int x2] [] (hp nS M) Q := by
  refine (eq_run 1 (q := (1, [.int x0, .int x1, .int x2], [.int x0], hp nS M)) (by with_unfolding_all rfl)).trans ?_
  by_cases c0 : x0 = 5
  · subst c0; rw [if_pos rfl]; exact eq_run 1 (q := (133, [.int 5, .int x1, .int x2], [], hp nS M)) (by with_unfolding_all rfl)
  rw [if_neg c0]
  by_cases c1 : x0 = 27
  · subst c1; rw [if_pos rfl]; exact eq_run 1 (q := (76, [.int 27, .int x1, .int x2], [], hp nS M)) (by with_unfolding_all rfl)
  rw [if_neg c1]
  by_cases c2 : x0 = 28
  · subst c2; rw [if_pos rfl]; exact eq_run 1 (q := (80, [.int 28, .int x1, .int x2], [], hp nS M)) (by with_unfolding_all rfl)
  rw [if_neg c2]
  by_cases c3 : x0 = 29
  · subst c3; rw [if_pos rfl]; exact eq_run 1 (q := (84, [.int 29, .int x1, .int x2], [], hp nS M)) (by with_unfolding_all rfl)
  rw [if_neg c3]
  by_cases c4 : x0 = 30
  · subst c4; rw [if_pos rfl]; exact eq_run 1 (q := (88, [.int 30, .int x1, .int x2], [], hp nS M)) (by with_unfolding_all rfl)
  rw [if_neg c4]
  by_cases c5 : x0 = 33
  · subst c5; rw [if_pos rfl]; exact eq_run 1 (q := (100, [.int 33, .int x1, .int x2], [], hp nS M)) (by with_unfolding_all rfl)
  rw [if_neg c5]
  by_cases c6 : x0 = 34
  · subst c6; rw [if_pos rfl]; exact eq_run 1 (q := (111, [.int 34, .int x1, .int x2], [], hp nS M)) (by with_unfolding_all rfl)
  rw [if_neg c6]
  by_cases c7 : x0 = 35
  · subst c7; rw [if_pos rfl]; exact eq_run 1 (q := (122, [.int 35, .int x1, .int x2], [], hp nS M)) (by with_unfolding_all rfl)
  rw [if_neg c7]
  exact eq_lsw_def (by with_unfolding_all rfl) (by
    have e0 : ¬ x0.toInt = 5 := fun z => c0 (Int32.toInt_inj.mp (z.trans (by decide)))
    have e1 : ¬ x0.toInt = 27 := fun z => c1 (Int32.toInt_inj.mp (z.trans (by decide)))
    have e2 : ¬ x0.toInt = 28 := fun z => c2 (Int32.toInt_inj.mp (z.trans (by decide)))
    have e3 : ¬ x0.toInt = 29 := fun z => c3 (Int32.toInt_inj.mp (z.trans (by decide)))
    have e4 : ¬ x0.toInt = 30 := fun z => c4 (Int32.toInt_inj.mp (z.trans (by decide)))
    have e5 : ¬ x0.toInt = 33 := fun z => c5 (Int32.toInt_inj.mp (z.trans (by decide)))
    have e6 : ¬ x0.toInt = 34 := fun z => c6 (Int32.toInt_inj.mp (z.trans (by decide)))
    have e7 : ¬ x0.toInt = 35 := fun z => c7 (Int32.toInt_inj.mp (z.trans (by decide)))
    show Op.lookupswitch.offset [(5, 132), (27, 75), (28, 79), (29, 83), (30, 87), (33, 99), (34, 110), (35, 121)] 136 x0.toInt = 136
    simp only [Op.lookupswitch.offset_cons, Op.lookupswitch.offset_nil]
    rw [if_neg (fun z => e0 z.symm), if_neg (fun z => e1 z.symm), if_neg (fun z => e2 z.symm), if_neg (fun z => e3 z.symm), if_neg (fun z => e4 z.symm), if_neg (fun z => e5 z.symm), if_neg (fun z => e6 z.symm), if_neg (fun z => e7 z.symm)])
set_option maxRecDepth 20000 in
theorem b_23_76 {d nS : Nat} {x0 x1 x2 : Int32} {M : am_M} {Q : Option Value → am_H → Prop} : am_Wp d 23 76 [.int x0, .int x1, .int x2] [] (hp nS M) Q = Q (some (.int (x1 + x2))) (hp nS M) := by
  refine (eq_run 3 (q := (79, [.int x0, .int x1, .int x2], [.int (x1 + x2)], hp nS M)) (by with_unfolding_all rfl)).trans ?_
  exact eq_retI2 (e := (.ireturn, 1, 0, 0, 0)) (t := .int) (by with_unfolding_all rfl) rfl (by with_unfolding_all rfl) rfl
set_option maxRecDepth 20000 in
theorem b_23_80 {d nS : Nat} {x0 x1 x2 : Int32} {M : am_M} {Q : Option Value → am_H → Prop} : am_Wp d 23 80 [.int x0, .int x1, .int x2] [] (hp nS M) Q = Q (some (.int (x1 - x2))) (hp nS M) := by
  refine (eq_run 3 (q := (83, [.int x0, .int x1, .int x2], [.int (x1 - x2)], hp nS M)) (by with_unfolding_all rfl)).trans ?_
  exact eq_retI2 (e := (.ireturn, 1, 0, 0, 0)) (t := .int) (by with_unfolding_all rfl) rfl (by with_unfolding_all rfl) rfl
set_option maxRecDepth 20000 in
theorem b_23_84 {d nS : Nat} {x0 x1 x2 : Int32} {M : am_M} {Q : Option Value → am_H → Prop} : am_Wp d 23 84 [.int x0, .int x1, .int x2] [] (hp nS M) Q = Q (some (.int (x1 * x2))) (hp nS M) := by
  refine (eq_run 3 (q := (87, [.int x0, .int x1, .int x2], [.int (x1 * x2)], hp nS M)) (by with_unfolding_all rfl)).trans ?_
  exact eq_retI2 (e := (.ireturn, 1, 0, 0, 0)) (t := .int) (by with_unfolding_all rfl) rfl (by with_unfolding_all rfl) rfl
set_option maxRecDepth 20000 in
theorem b_23_88 {d nS : Nat} {x0 x1 x2 : Int32} {M : am_M} {Q : Option Value → am_H → Prop} : am_Wp d 23 88 [.int x0, .int x1, .int x2] [] (hp nS M) Q = if ¬ x2 = 0 then am_Wp d 23 96 [.int x0, .int x1, .int x2] [] (hp nS M) Q else am_Wp d 23 92 [.int x0, .int x1, .int x2] [] (hp nS M) Q := by
  refine (eq_run 1 (q := (89, [.int x0, .int x1, .int x2], [.int x2], hp nS M)) (by with_unfolding_all rfl)).trans ?_
  exact eq_if_ne (by with_unfolding_all rfl)
set_option maxRecDepth 20000 in
theorem b_23_92 {d nS : Nat} {x0 x1 x2 : Int32} {M : am_M} {Q : Option Value → am_H → Prop} : am_Wp d 23 92 [.int x0, .int x1, .int x2] [] (hp nS M) Q = am_Wp d 23 99 [.int x0, .int x1, .int x2] [.int 0] (hp nS M) Q := by
  exact eq_run 2 (q := (99, [.int x0, .int x1, .int x2], [.int 0], hp nS M)) (by with_unfolding_all rfl)
set_option maxRecDepth 20000 in
theorem b_23_96 {d nS : Nat} {x0 x1 x2 : Int32} {M : am_M} {Q : Option Value → am_H → Prop} (h1 : ¬ x2 = 0) : am_Wp d 23 96 [.int x0, .int x1, .int x2] [] (hp nS M) Q = am_Wp d 23 99 [.int x0, .int x1, .int x2] [.int (x1 / x2)] (hp nS M) Q := by
  refine (eq_run 2 (q := (98, [.int x0, .int x1, .int x2], [.int x2, .int x1], hp nS M)) (by with_unfolding_all rfl)).trans ?_
  exact eq_div (e := (.idiv, 1, 0, 0, 0)) (by with_unfolding_all rfl) rfl h1
set_option maxRecDepth 20000 in
theorem b_23_99 {d nS : Nat} {x0 x1 x2 s0 : Int32} {M : am_M} {Q : Option Value → am_H → Prop} : am_Wp d 23 99 [.int x0, .int x1, .int x2] [.int s0] (hp nS M) Q = Q (some (.int s0)) (hp nS M) := by
  exact eq_retI2 (e := (.ireturn, 1, 0, 0, 0)) (t := .int) (by with_unfolding_all rfl) rfl (by with_unfolding_all rfl) rfl
set_option maxRecDepth 20000 in
theorem b_23_100 {d nS : Nat} {x0 x1 x2 : Int32} {M : am_M} {Q : Option Value → am_H → Prop} : am_Wp d 23 100 [.int x0, .int x1, .int x2] [] (hp nS M) Q = if x2 ≤ x1 then am_Wp d 23 109 [.int x0, .int x1, .int x2] [] (hp nS M) Q else am_Wp d 23 105 [.int x0, .int x1, .int x2] [] (hp nS M) Q := by
  refine (eq_run 2 (q := (102, [.int x0, .int x1, .int x2], [.int x2, .int x1], hp nS M)) (by with_unfolding_all rfl)).trans ?_
  exact eq_cmp_ge (by with_unfolding_all rfl)
set_option maxRecDepth 20000 in
theorem b_23_105 {d nS : Nat} {x0 x1 x2 : Int32} {M : am_M} {Q : Option Value → am_H → Prop} : am_Wp d 23 105 [.int x0, .int x1, .int x2] [] (hp nS M) Q = am_Wp d 23 110 [.int x0, .int x1, .int x2] [.int 1] (hp nS M) Q := by
  exact eq_run 2 (q := (110, [.int x0, .int x1, .int x2], [.int 1], hp nS M)) (by with_unfolding_all rfl)
set_option maxRecDepth 20000 in
theorem b_23_109 {d nS : Nat} {x0 x1 x2 : Int32} {M : am_M} {Q : Option Value → am_H → Prop} : am_Wp d 23 109 [.int x0, .int x1, .int x2] [] (hp nS M) Q = am_Wp d 23 110 [.int x0, .int x1, .int x2] [.int 0] (hp nS M) Q := by
  exact eq_run 1 (q := (110, [.int x0, .int x1, .int x2], [.int 0], hp nS M)) (by with_unfolding_all rfl)
set_option maxRecDepth 20000 in
theorem b_23_110 {d nS : Nat} {x0 x1 x2 s0 : Int32} {M : am_M} {Q : Option Value → am_H → Prop} : am_Wp d 23 110 [.int x0, .int x1, .int x2] [.int s0] (hp nS M) Q = Q (some (.int s0)) (hp nS M) := by
  exact eq_retI2 (e := (.ireturn, 1, 0, 0, 0)) (t := .int) (by with_unfolding_all rfl) rfl (by with_unfolding_all rfl) rfl
set_option maxRecDepth 20000 in
theorem b_23_111 {d nS : Nat} {x0 x1 x2 : Int32} {M : am_M} {Q : Option Value → am_H → Prop} : am_Wp d 23 111 [.int x0, .int x1, .int x2] [] (hp nS M) Q = if ¬ x1 = x2 then am_Wp d 23 120 [.int x0, .int x1, .int x2] [] (hp nS M) Q else am_Wp d 23 116 [.int x0, .int x1, .int x2] [] (hp nS M) Q := by
  refine (eq_run 2 (q := (113, [.int x0, .int x1, .int x2], [.int x2, .int x1], hp nS M)) (by with_unfolding_all rfl)).trans ?_
  exact eq_cmp_ne (by with_unfolding_all rfl)
set_option maxRecDepth 20000 in
theorem b_23_116 {d nS : Nat} {x0 x1 x2 : Int32} {M : am_M} {Q : Option Value → am_H → Prop} : am_Wp d 23 116 [.int x0, .int x1, .int x2] [] (hp nS M) Q = am_Wp d 23 121 [.int x0, .int x1, .int x2] [.int 1] (hp nS M) Q := by
  exact eq_run 2 (q := (121, [.int x0, .int x1, .int x2], [.int 1], hp nS M)) (by with_unfolding_all rfl)
set_option maxRecDepth 20000 in
theorem b_23_120 {d nS : Nat} {x0 x1 x2 : Int32} {M : am_M} {Q : Option Value → am_H → Prop} : am_Wp d 23 120 [.int x0, .int x1, .int x2] [] (hp nS M) Q = am_Wp d 23 121 [.int x0, .int x1, .int x2] [.int 0] (hp nS M) Q := by
  exact eq_run 1 (q := (121, [.int x0, .int x1, .int x2], [.int 0], hp nS M)) (by with_unfolding_all rfl)
set_option maxRecDepth 20000 in
theorem b_23_121 {d nS : Nat} {x0 x1 x2 s0 : Int32} {M : am_M} {Q : Option Value → am_H → Prop} : am_Wp d 23 121 [.int x0, .int x1, .int x2] [.int s0] (hp nS M) Q = Q (some (.int s0)) (hp nS M) := by
  exact eq_retI2 (e := (.ireturn, 1, 0, 0, 0)) (t := .int) (by with_unfolding_all rfl) rfl (by with_unfolding_all rfl) rfl
set_option maxRecDepth 20000 in
theorem b_23_122 {d nS : Nat} {x0 x1 x2 : Int32} {M : am_M} {Q : Option Value → am_H → Prop} : am_Wp d 23 122 [.int x0, .int x1, .int x2] [] (hp nS M) Q = if x1 ≤ x2 then am_Wp d 23 131 [.int x0, .int x1, .int x2] [] (hp nS M) Q else am_Wp d 23 127 [.int x0, .int x1, .int x2] [] (hp nS M) Q := by
  refine (eq_run 2 (q := (124, [.int x0, .int x1, .int x2], [.int x2, .int x1], hp nS M)) (by with_unfolding_all rfl)).trans ?_
  exact eq_cmp_le (by with_unfolding_all rfl)
set_option maxRecDepth 20000 in
theorem b_23_127 {d nS : Nat} {x0 x1 x2 : Int32} {M : am_M} {Q : Option Value → am_H → Prop} : am_Wp d 23 127 [.int x0, .int x1, .int x2] [] (hp nS M) Q = am_Wp d 23 132 [.int x0, .int x1, .int x2] [.int 1] (hp nS M) Q := by
  exact eq_run 2 (q := (132, [.int x0, .int x1, .int x2], [.int 1], hp nS M)) (by with_unfolding_all rfl)
set_option maxRecDepth 20000 in
theorem b_23_131 {d nS : Nat} {x0 x1 x2 : Int32} {M : am_M} {Q : Option Value → am_H → Prop} : am_Wp d 23 131 [.int x0, .int x1, .int x2] [] (hp nS M) Q = am_Wp d 23 132 [.int x0, .int x1, .int x2] [.int 0] (hp nS M) Q := by
  exact eq_run 1 (q := (132, [.int x0, .int x1, .int x2], [.int 0], hp nS M)) (by with_unfolding_all rfl)
set_option maxRecDepth 20000 in
theorem b_23_132 {d nS : Nat} {x0 x1 x2 s0 : Int32} {M : am_M} {Q : Option Value → am_H → Prop} : am_Wp d 23 132 [.int x0, .int x1, .int x2] [.int s0] (hp nS M) Q = Q (some (.int s0)) (hp nS M) := by
  exact eq_retI2 (e := (.ireturn, 1, 0, 0, 0)) (t := .int) (by with_unfolding_all rfl) rfl (by with_unfolding_all rfl) rfl
set_option maxRecDepth 20000 in
theorem b_23_133 {d nS : Nat} {x0 x1 x2 : Int32} {M : am_M} {Q : Option Value → am_H → Prop} : am_Wp d 23 133 [.int x0, .int x1, .int x2] [] (hp nS M) Q = Q (some (.int (x1 &&& x2))) (hp nS M) := by
  refine (eq_run 3 (q := (136, [.int x0, .int x1, .int x2], [.int (x1 &&& x2)], hp nS M)) (by with_unfolding_all rfl)).trans ?_
  exact eq_retI2 (e := (.ireturn, 1, 0, 0, 0)) (t := .int) (by with_unfolding_all rfl) rfl (by with_unfolding_all rfl) rfl
set_option maxRecDepth 20000 in
theorem b_23_137 {d nS : Nat} {x0 x1 x2 : Int32} {M : am_M} {Q : Option Value → am_H → Prop} : am_Wp d 23 137 [.int x0, .int x1, .int x2] [] (hp nS M) Q = Q (some (.int (x1 ||| x2))) (hp nS M) := by
  refine (eq_run 3 (q := (140, [.int x0, .int x1, .int x2], [.int (x1 ||| x2)], hp nS M)) (by with_unfolding_all rfl)).trans ?_
  exact eq_retI2 (e := (.ireturn, 1, 0, 0, 0)) (t := .int) (by with_unfolding_all rfl) rfl (by with_unfolding_all rfl) rfl
-- LarkExchange$Law held(II)I (24, (None, None))
set_option maxRecDepth 20000 in
theorem b_24_0 {d nS : Nat} {x0 x1 : Int32} {M : am_M} {Q : Option Value → am_H → Prop} : am_Wp d 24 0 [.int x0, .int x1, .retAddr 0, .retAddr 0] [] (hp nS M) Q = if ¬ x0 = 2 then am_Wp d 24 9 [.int x0, .int x1, .retAddr 0, .retAddr 0] [] (hp nS M) Q else am_Wp d 24 5 [.int x0, .int x1, .retAddr 0, .retAddr 0] [] (hp nS M) Q := by
  refine (eq_run 2 (q := (2, [.int x0, .int x1, .retAddr 0, .retAddr 0], [.int 2, .int x0], hp nS M)) (by with_unfolding_all rfl)).trans ?_
  exact eq_cmp_ne (by with_unfolding_all rfl)
set_option maxRecDepth 20000 in
theorem b_24_5 {d nS : Nat} {x0 x1 : Int32} {M : am_M} {Q : Option Value → am_H → Prop} : am_Wp d 24 5 [.int x0, .int x1, .retAddr 0, .retAddr 0] [] (hp nS M) Q = am_Wp d 24 10 [.int x0, .int x1, .retAddr 0, .retAddr 0] [.int 1] (hp nS M) Q := by
  exact eq_run 2 (q := (10, [.int x0, .int x1, .retAddr 0, .retAddr 0], [.int 1], hp nS M)) (by with_unfolding_all rfl)
set_option maxRecDepth 20000 in
theorem b_24_9 {d nS : Nat} {x0 x1 : Int32} {M : am_M} {Q : Option Value → am_H → Prop} : am_Wp d 24 9 [.int x0, .int x1, .retAddr 0, .retAddr 0] [] (hp nS M) Q = am_Wp d 24 10 [.int x0, .int x1, .retAddr 0, .retAddr 0] [.int 0] (hp nS M) Q := by
  exact eq_run 1 (q := (10, [.int x0, .int x1, .retAddr 0, .retAddr 0], [.int 0], hp nS M)) (by with_unfolding_all rfl)
set_option maxRecDepth 20000 in
theorem b_24_10 {d nS : Nat} {x0 x1 s0 : Int32} {M : am_M} {Q : Option Value → am_H → Prop} : am_Wp d 24 10 [.int x0, .int x1, .retAddr 0, .retAddr 0] [.int s0] (hp nS M) Q = if ¬ x0 = 0 then am_Wp d 24 20 [.int x0, .int x1, .int s0, .retAddr 0] [] (hp nS M) Q else am_Wp d 24 15 [.int x0, .int x1, .int s0, .retAddr 0] [] (hp nS M) Q := by
  refine (eq_run 2 (q := (12, [.int x0, .int x1, .int s0, .retAddr 0], [.int x0], hp nS M)) (by with_unfolding_all rfl)).trans ?_
  exact eq_if_ne (by with_unfolding_all rfl)
set_option maxRecDepth 20000 in
theorem b_24_15 {d nS : Nat} {x0 x1 x2 : Int32} {M : am_M} {Q : Option Value → am_H → Prop} : am_Wp d 24 15 [.int x0, .int x1, .int x2, .retAddr 0] [] (hp nS M) Q = am_Wp d 24 34 [.int x0, .int x1, .int x2, .retAddr 0] [.int 99] (hp nS M) Q := by
  exact eq_run 2 (q := (34, [.int x0, .int x1, .int x2, .retAddr 0], [.int 99], hp nS M)) (by with_unfolding_all rfl)
set_option maxRecDepth 20000 in
theorem b_24_20 {d nS : Nat} {x0 x1 x2 : Int32} {M : am_M} {Q : Option Value → am_H → Prop} : am_Wp d 24 20 [.int x0, .int x1, .int x2, .retAddr 0] [] (hp nS M) Q = if ¬ x0 = 1 then am_Wp d 24 31 [.int x0, .int x1, .int x2, .retAddr 0] [] (hp nS M) Q else am_Wp d 24 25 [.int x0, .int x1, .int x2, .retAddr 0] [] (hp nS M) Q := by
  refine (eq_run 2 (q := (22, [.int x0, .int x1, .int x2, .retAddr 0], [.int 1, .int x0], hp nS M)) (by with_unfolding_all rfl)).trans ?_
  exact eq_cmp_ne (by with_unfolding_all rfl)
set_option maxRecDepth 20000 in
theorem b_24_25 {d nS : Nat} {x0 x1 x2 : Int32} {M : am_M} {Q : Option Value → am_H → Prop} : am_Wp d 24 25 [.int x0, .int x1, .int x2, .retAddr 0] [] (hp nS M) Q = am_Wp d 24 34 [.int x0, .int x1, .int x2, .retAddr 0] [.int 1000] (hp nS M) Q := by
  exact eq_run 2 (q := (34, [.int x0, .int x1, .int x2, .retAddr 0], [.int 1000], hp nS M)) (by with_unfolding_all rfl)
set_option maxRecDepth 20000 in
theorem b_24_31 {d nS : Nat} {x0 x1 x2 : Int32} {M : am_M} {Q : Option Value → am_H → Prop} : am_Wp d 24 31 [.int x0, .int x1, .int x2, .retAddr 0] [] (hp nS M) Q = am_Wp d 24 34 [.int x0, .int x1, .int x2, .retAddr 0] [.int 999] (hp nS M) Q := by
  exact eq_run 1 (q := (34, [.int x0, .int x1, .int x2, .retAddr 0], [.int 999], hp nS M)) (by with_unfolding_all rfl)
set_option maxRecDepth 20000 in
theorem b_24_34 {d nS : Nat} {x0 x1 x2 s0 : Int32} {M : am_M} {Q : Option Value → am_H → Prop} : am_Wp (d + 1) 24 34 [.int x0, .int x1, .int x2, .retAddr 0] [.int s0] (hp nS M) Q = am_Wp d 296 0 [.int s0, .int x1] [] (hp nS M) (fun v h1 => am_Wp (d + 1) 24 41 [.int x0, .int x1, .int x2, .int s0] (am_ans v [.int x2]) h1 Q) := by
  refine (eq_run 4 (q := (38, [.int x0, .int x1, .int x2, .int s0], [.int x1, .int s0, .int x2], hp nS M)) (by with_unfolding_all rfl)).trans ?_
  exact eq_call2 (e := (.invokestatic 98, 3, 1, 296, 91)) (as := [.int s0, .int x1]) (r := [.int x2]) (n := 2) (m := 2) (by with_unfolding_all rfl) rfl (by decide) (by with_unfolding_all rfl) (by decide) (by with_unfolding_all rfl) ⟨fun z => absurd z (by decide), fun z => by simp at z⟩
set_option maxRecDepth 20000 in
theorem b_24_41 {d nS : Nat} {x0 x1 x2 x3 s0 s1 : Int32} {M : am_M} {Q : Option Value → am_H → Prop} : am_Wp (d + 1) 24 41 [.int x0, .int x1, .int x2, .int x3] [.int s1, .int s0] (hp nS M) Q = am_Wp d 297 0 [.int s0, .int s1] [] (hp nS M) (fun v h1 => am_Wp (d + 1) 24 44 [.int x0, .int x1, .int x2, .int x3] (am_ans v []) h1 Q) := by
  exact eq_call2 (e := (.invokestatic 103, 3, 1, 297, 92)) (as := [.int s0, .int s1]) (r := []) (n := 2) (m := 2) (by with_unfolding_all rfl) rfl (by decide) (by with_unfolding_all rfl) (by decide) (by with_unfolding_all rfl) ⟨fun z => absurd z (by decide), fun z => by simp at z⟩
set_option maxRecDepth 20000 in
theorem b_24_44 {d nS : Nat} {x0 x1 x2 x3 s0 : Int32} {M : am_M} {Q : Option Value → am_H → Prop} : am_Wp d 24 44 [.int x0, .int x1, .int x2, .int x3] [.int s0] (hp nS M) Q = Q (some (.int s0)) (hp nS M) := by
  exact eq_retI2 (e := (.ireturn, 1, 0, 0, 0)) (t := .int) (by with_unfolding_all rfl) rfl (by with_unfolding_all rfl) rfl
-- LarkExchange$Law usual(ILLarkExchange$World;II)I (25, (None, 18, None, None))
set_option maxRecDepth 20000 in
theorem b_25_0 {d nS : Nat} {x0 x2 x3 : Int32} {M : am_M} {Q : Option Value → am_H → Prop} : am_Wp (d + 1) 25 0 [.int x0, .ref 18, .int x2, .int x3, .retAddr 0, .retAddr 0] [] (hp nS M) Q = am_Wp d 104 0 [.ref 18, .int x2] [] (hp nS M) (fun v h1 => am_Wp (d + 1) 25 5 [.int x0, .ref 18, .int x2, .int x3, .retAddr 0, .retAddr 0] (am_ans v []) h1 Q) := by
  refine (eq_run 2 (q := (2, [.int x0, .ref 18, .int x2, .int x3, .retAddr 0, .retAddr 0], [.int x2, .ref 18], hp nS M)) (by with_unfolding_all rfl)).trans ?_
  exact eq_call2 (e := (.invokevirtual 65, 3, 0, 104, 89)) (as := [.ref 18, .int x2]) (r := []) (n := 2) (m := 2) (by with_unfolding_all rfl) rfl (by decide) (by with_unfolding_all rfl) (by decide) (by with_unfolding_all rfl) ⟨fun _ => am_rec_ok (c := 12) (by with_unfolding_all rfl) (by decide +kernel), fun z => by simp at z⟩
set_option maxRecDepth 20000 in
theorem b_25_5 {d nS : Nat} {x0 x2 x3 s0 : Int32} {M : am_M} {Q : Option Value → am_H → Prop} : am_Wp d 25 5 [.int x0, .ref 18, .int x2, .int x3, .retAddr 0, .retAddr 0] [.int s0] (hp nS M) Q = if ¬ x0 = 2 then am_Wp d 25 55 [.int x0, .ref 18, .int x2, .int x3, .int s0, .retAddr 0] [] (hp nS M) Q else am_Wp d 25 12 [.int x0, .ref 18, .int x2, .int x3, .int s0, .retAddr 0] [] (hp nS M) Q := by
  refine (eq_run 3 (q := (9, [.int x0, .ref 18, .int x2, .int x3, .int s0, .retAddr 0], [.int 2, .int x0], hp nS M)) (by with_unfolding_all rfl)).trans ?_
  exact eq_cmp_ne (by with_unfolding_all rfl)
set_option maxRecDepth 20000 in
theorem b_25_12 {d nS : Nat} {x0 x2 x3 x4 : Int32} {M : am_M} {Q : Option Value → am_H → Prop} : am_Wp (d + 1) 25 12 [.int x0, .ref 18, .int x2, .int x3, .int x4, .retAddr 0] [] (hp nS M) Q = am_Wp d 106 0 [.ref 18, .int x3] [] (hp nS M) (fun v h1 => am_Wp (d + 1) 25 17 [.int x0, .ref 18, .int x2, .int x3, .int x4, .retAddr 0] (am_ans v []) h1 Q) := by
  refine (eq_run 2 (q := (14, [.int x0, .ref 18, .int x2, .int x3, .int x4, .retAddr 0], [.int x3, .ref 18], hp nS M)) (by with_unfolding_all rfl)).trans ?_
  exact eq_call2 (e := (.invokevirtual 86, 3, 0, 106, 90)) (as := [.ref 18, .int x3]) (r := []) (n := 2) (m := 2) (by with_unfolding_all rfl) rfl (by decide) (by with_unfolding_all rfl) (by decide) (by with_unfolding_all rfl) ⟨fun _ => am_rec_ok (c := 12) (by with_unfolding_all rfl) (by decide +kernel), fun z => by simp at z⟩
set_option maxRecDepth 20000 in
theorem b_25_17 {d nS : Nat} {x0 x2 x3 x4 s0 : Int32} {M : am_M} {Q : Option Value → am_H → Prop} : am_Wp d 25 17 [.int x0, .ref 18, .int x2, .int x3, .int x4, .retAddr 0] [.int s0] (hp nS M) Q = if s0 = 0 then am_Wp d 25 29 [.int x0, .ref 18, .int x2, .int x3, .int x4, .retAddr 0] [] (hp nS M) Q else am_Wp d 25 20 [.int x0, .ref 18, .int x2, .int x3, .int x4, .retAddr 0] [] (hp nS M) Q := by
  exact eq_if_eq (by with_unfolding_all rfl)
set_option maxRecDepth 20000 in
theorem b_25_20 {d nS : Nat} {x0 x2 x3 x4 : Int32} {M : am_M} {Q : Option Value → am_H → Prop} (h1 : vp_in x3 8) : am_Wp d 25 20 [.int x0, .ref 18, .int x2, .int x3, .int x4, .retAddr 0] [] (hp nS M) Q = am_Wp d 25 30 [.int x0, .ref 18, .int x2, .int x3, .int x4, .retAddr 0] [.int (M 24 x3.toNatClampNeg)] (hp nS M) Q := by
  refine (eq_run 3 (q := (25, [.int x0, .ref 18, .int x2, .int x3, .int x4, .retAddr 0], [.int x3, .ref 24], hp nS M)) (by with_unfolding_all rfl)).trans ?_
  refine (eq_ald (e := (.iaload, 1, 0, 0, 0)) (by with_unfolding_all rfl) rfl (n := 8) (by with_unfolding_all rfl) h1).trans ?_
  exact eq_run 1 (q := (30, [.int x0, .ref 18, .int x2, .int x3, .int x4, .retAddr 0], [.int (M 24 x3.toNatClampNeg)], hp nS M)) (by with_unfolding_all rfl)
set_option maxRecDepth 20000 in
theorem b_25_29 {d nS : Nat} {x0 x2 x3 x4 : Int32} {M : am_M} {Q : Option Value → am_H → Prop} : am_Wp d 25 29 [.int x0, .ref 18, .int x2, .int x3, .int x4, .retAddr 0] [] (hp nS M) Q = am_Wp d 25 30 [.int x0, .ref 18, .int x2, .int x3, .int x4, .retAddr 0] [.int 0] (hp nS M) Q := by
  exact eq_run 1 (q := (30, [.int x0, .ref 18, .int x2, .int x3, .int x4, .retAddr 0], [.int 0], hp nS M)) (by with_unfolding_all rfl)
set_option maxRecDepth 20000 in
theorem b_25_30 {d nS : Nat} {x0 x2 x3 x4 s0 : Int32} {M : am_M} {Q : Option Value → am_H → Prop} : am_Wp d 25 30 [.int x0, .ref 18, .int x2, .int x3, .int x4, .retAddr 0] [.int s0] (hp nS M) Q = if x4 = 0 then am_Wp d 25 52 [.int x0, .ref 18, .int x2, .int x3, .int x4, .int s0] [] (hp nS M) Q else am_Wp d 25 37 [.int x0, .ref 18, .int x2, .int x3, .int x4, .int s0] [] (hp nS M) Q := by
  refine (eq_run 2 (q := (34, [.int x0, .ref 18, .int x2, .int x3, .int x4, .int s0], [.int x4], hp nS M)) (by with_unfolding_all rfl)).trans ?_
  exact eq_if_eq (by with_unfolding_all rfl)
set_option maxRecDepth 20000 in
theorem b_25_37 {d nS : Nat} {x0 x2 x3 x4 x5 : Int32} {M : am_M} {Q : Option Value → am_H → Prop} (h1 : vp_in x2 6) : am_Wp d 25 37 [.int x0, .ref 18, .int x2, .int x3, .int x4, .int x5] [] (hp nS M) Q = am_Wp d 25 54 [.int x0, .ref 18, .int x2, .int x3, .int x4, .int x5] [.int (x5 + ((M 20 x2.toNatClampNeg) / 10))] (hp nS M) Q := by
  refine (eq_run 4 (q := (44, [.int x0, .ref 18, .int x2, .int x3, .int x4, .int x5], [.int x2, .ref 20, .int x5], hp nS M)) (by with_unfolding_all rfl)).trans ?_
  refine (eq_ald (e := (.iaload, 1, 0, 0, 0)) (by with_unfolding_all rfl) rfl (n := 6) (by with_unfolding_all rfl) h1).trans ?_
  exact eq_run 4 (q := (54, [.int x0, .ref 18, .int x2, .int x3, .int x4, .int x5], [.int (x5 + ((M 20 x2.toNatClampNeg) / 10))], hp nS M)) (by with_unfolding_all rfl)
set_option maxRecDepth 20000 in
theorem b_25_52 {d nS : Nat} {x0 x2 x3 x4 x5 : Int32} {M : am_M} {Q : Option Value → am_H → Prop} : am_Wp d 25 52 [.int x0, .ref 18, .int x2, .int x3, .int x4, .int x5] [] (hp nS M) Q = am_Wp d 25 54 [.int x0, .ref 18, .int x2, .int x3, .int x4, .int x5] [.int x5] (hp nS M) Q := by
  exact eq_run 1 (q := (54, [.int x0, .ref 18, .int x2, .int x3, .int x4, .int x5], [.int x5], hp nS M)) (by with_unfolding_all rfl)
set_option maxRecDepth 20000 in
theorem b_25_54 {d nS : Nat} {x0 x2 x3 x4 x5 s0 : Int32} {M : am_M} {Q : Option Value → am_H → Prop} : am_Wp d 25 54 [.int x0, .ref 18, .int x2, .int x3, .int x4, .int x5] [.int s0] (hp nS M) Q = Q (some (.int s0)) (hp nS M) := by
  exact eq_retI2 (e := (.ireturn, 1, 0, 0, 0)) (t := .int) (by with_unfolding_all rfl) rfl (by with_unfolding_all rfl) rfl
set_option maxRecDepth 20000 in
theorem b_25_55 {d nS : Nat} {x0 x2 x3 x4 : Int32} {M : am_M} {Q : Option Value → am_H → Prop} : am_Wp d 25 55 [.int x0, .ref 18, .int x2, .int x3, .int x4, .retAddr 0] [] (hp nS M) Q = if ¬ x4 = 0 then am_Wp d 25 62 [.int x0, .ref 18, .int x2, .int x3, .int x4, .retAddr 0] [] (hp nS M) Q else am_Wp d 25 60 [.int x0, .ref 18, .int x2, .int x3, .int x4, .retAddr 0] [] (hp nS M) Q := by
  refine (eq_run 1 (q := (57, [.int x0, .ref 18, .int x2, .int x3, .int x4, .retAddr 0], [.int x4], hp nS M)) (by with_unfolding_all rfl)).trans ?_
  exact eq_if_ne (by with_unfolding_all rfl)
set_option maxRecDepth 20000 in
theorem b_25_60 {d nS : Nat} {x0 x2 x3 x4 : Int32} {M : am_M} {Q : Option Value → am_H → Prop} : am_Wp d 25 60 [.int x0, .ref 18, .int x2, .int x3, .int x4, .retAddr 0] [] (hp nS M) Q = Q (some (.int 0)) (hp nS M) := by
  refine (eq_run 1 (q := (61, [.int x0, .ref 18, .int x2, .int x3, .int x4, .retAddr 0], [.int 0], hp nS M)) (by with_unfolding_all rfl)).trans ?_
  exact eq_retI2 (e := (.ireturn, 1, 0, 0, 0)) (t := .int) (by with_unfolding_all rfl) rfl (by with_unfolding_all rfl) rfl
set_option maxRecDepth 20000 in
theorem b_25_62 {d nS : Nat} {x0 x2 x3 x4 : Int32} {M : am_M} {Q : Option Value → am_H → Prop} : am_Wp d 25 62 [.int x0, .ref 18, .int x2, .int x3, .int x4, .retAddr 0] [] (hp nS M) Q = if ¬ x0 = 0 then am_Wp d 25 77 [.int x0, .ref 18, .int x2, .int x3, .int x4, .retAddr 0] [] (hp nS M) Q else am_Wp d 25 66 [.int x0, .ref 18, .int x2, .int x3, .int x4, .retAddr 0] [] (hp nS M) Q := by
  refine (eq_run 1 (q := (63, [.int x0, .ref 18, .int x2, .int x3, .int x4, .retAddr 0], [.int x0], hp nS M)) (by with_unfolding_all rfl)).trans ?_
  exact eq_if_ne (by with_unfolding_all rfl)
set_option maxRecDepth 20000 in
theorem b_25_66 {d nS : Nat} {x0 x2 x3 x4 : Int32} {M : am_M} {Q : Option Value → am_H → Prop} (h1 : vp_in x2 6) : am_Wp d 25 66 [.int x0, .ref 18, .int x2, .int x3, .int x4, .retAddr 0] [] (hp nS M) Q = am_Wp d 25 99 [.int x0, .ref 18, .int x2, .int x3, .int x4, .retAddr 0] [.int (5 + (M 19 x2.toNatClampNeg))] (hp nS M) Q := by
  refine (eq_run 4 (q := (72, [.int x0, .ref 18, .int x2, .int x3, .int x4, .retAddr 0], [.int x2, .ref 19, .int 5], hp nS M)) (by with_unfolding_all rfl)).trans ?_
  refine (eq_ald (e := (.iaload, 1, 0, 0, 0)) (by with_unfolding_all rfl) rfl (n := 6) (by with_unfolding_all rfl) h1).trans ?_
  exact eq_run 2 (q := (99, [.int x0, .ref 18, .int x2, .int x3, .int x4, .retAddr 0], [.int (5 + (M 19 x2.toNatClampNeg))], hp nS M)) (by with_unfolding_all rfl)
set_option maxRecDepth 20000 in
theorem b_25_77 {d nS : Nat} {x0 x2 x3 x4 : Int32} {M : am_M} {Q : Option Value → am_H → Prop} (h1 : vp_in x2 6) (h2 : vp_in x2 6) : am_Wp d 25 77 [.int x0, .ref 18, .int x2, .int x3, .int x4, .retAddr 0] [] (hp nS M) Q = am_Wp d 25 99 [.int x0, .ref 18, .int x2, .int x3, .int x4, .retAddr 0] [.int ((100 + (100 * (M 23 x2.toNatClampNeg))) - (10 * (M 19 x2.toNatClampNeg)))] (hp nS M) Q := by
  refine (eq_run 5 (q := (86, [.int x0, .ref 18, .int x2, .int x3, .int x4, .retAddr 0], [.int x2, .ref 23, .int 100, .int 100], hp nS M)) (by with_unfolding_all rfl)).trans ?_
  refine (eq_ald (e := (.iaload, 1, 0, 0, 0)) (by with_unfolding_all rfl) rfl (n := 6) (by with_unfolding_all rfl) h1).trans ?_
  refine (eq_run 6 (q := (96, [.int x0, .ref 18, .int x2, .int x3, .int x4, .retAddr 0], [.int x2, .ref 19, .int 10, .int (100 + (100 * (M 23 x2.toNatClampNeg)))], hp nS M)) (by with_unfolding_all rfl)).trans ?_
  refine (eq_ald (e := (.iaload, 1, 0, 0, 0)) (by with_unfolding_all rfl) rfl (n := 6) (by with_unfolding_all rfl) h2).trans ?_
  exact eq_run 2 (q := (99, [.int x0, .ref 18, .int x2, .int x3, .int x4, .retAddr 0], [.int ((100 + (100 * (M 23 x2.toNatClampNeg))) - (10 * (M 19 x2.toNatClampNeg)))], hp nS M)) (by with_unfolding_all rfl)
set_option maxRecDepth 20000 in
theorem b_25_99 {d nS : Nat} {x0 x2 x3 x4 s0 : Int32} {M : am_M} {Q : Option Value → am_H → Prop} : am_Wp d 25 99 [.int x0, .ref 18, .int x2, .int x3, .int x4, .retAddr 0] [.int s0] (hp nS M) Q = Q (some (.int s0)) (hp nS M) := by
  exact eq_retI2 (e := (.ireturn, 1, 0, 0, 0)) (t := .int) (by with_unfolding_all rfl) rfl (by with_unfolding_all rfl) rfl
-- LarkExchange$Law usual(ILLarkExchange$World;II)I (25, (None, 101, None, None))
set_option maxRecDepth 20000 in
theorem b_25i1_0 {d nS : Nat} {x0 x2 x3 : Int32} {M : am_M} {Q : Option Value → am_H → Prop} : am_Wp (d + 1) 25 0 [.int x0, .ref 101, .int x2, .int x3, .retAddr 0, .retAddr 0] [] (hp nS M) Q = am_Wp d 104 0 [.ref 101, .int x2] [] (hp nS M) (fun v h1 => am_Wp (d + 1) 25 5 [.int x0, .ref 101, .int x2, .int x3, .retAddr 0, .retAddr 0] (am_ans v []) h1 Q) := by
  refine (eq_run 2 (q := (2, [.int x0, .ref 101, .int x2, .int x3, .retAddr 0, .retAddr 0], [.int x2, .ref 101], hp nS M)) (by with_unfolding_all rfl)).trans ?_
  exact eq_call2 (e := (.invokevirtual 65, 3, 0, 104, 89)) (as := [.ref 101, .int x2]) (r := []) (n := 2) (m := 2) (by with_unfolding_all rfl) rfl (by decide) (by with_unfolding_all rfl) (by decide) (by with_unfolding_all rfl) ⟨fun _ => am_rec_ok (c := 12) (by with_unfolding_all rfl) (by decide +kernel), fun z => by simp at z⟩
set_option maxRecDepth 20000 in
theorem b_25i1_5 {d nS : Nat} {x0 x2 x3 s0 : Int32} {M : am_M} {Q : Option Value → am_H → Prop} : am_Wp d 25 5 [.int x0, .ref 101, .int x2, .int x3, .retAddr 0, .retAddr 0] [.int s0] (hp nS M) Q = if ¬ x0 = 2 then am_Wp d 25 55 [.int x0, .ref 101, .int x2, .int x3, .int s0, .retAddr 0] [] (hp nS M) Q else am_Wp d 25 12 [.int x0, .ref 101, .int x2, .int x3, .int s0, .retAddr 0] [] (hp nS M) Q := by
  refine (eq_run 3 (q := (9, [.int x0, .ref 101, .int x2, .int x3, .int s0, .retAddr 0], [.int 2, .int x0], hp nS M)) (by with_unfolding_all rfl)).trans ?_
  exact eq_cmp_ne (by with_unfolding_all rfl)
set_option maxRecDepth 20000 in
theorem b_25i1_12 {d nS : Nat} {x0 x2 x3 x4 : Int32} {M : am_M} {Q : Option Value → am_H → Prop} : am_Wp (d + 1) 25 12 [.int x0, .ref 101, .int x2, .int x3, .int x4, .retAddr 0] [] (hp nS M) Q = am_Wp d 106 0 [.ref 101, .int x3] [] (hp nS M) (fun v h1 => am_Wp (d + 1) 25 17 [.int x0, .ref 101, .int x2, .int x3, .int x4, .retAddr 0] (am_ans v []) h1 Q) := by
  refine (eq_run 2 (q := (14, [.int x0, .ref 101, .int x2, .int x3, .int x4, .retAddr 0], [.int x3, .ref 101], hp nS M)) (by with_unfolding_all rfl)).trans ?_
  exact eq_call2 (e := (.invokevirtual 86, 3, 0, 106, 90)) (as := [.ref 101, .int x3]) (r := []) (n := 2) (m := 2) (by with_unfolding_all rfl) rfl (by decide) (by with_unfolding_all rfl) (by decide) (by with_unfolding_all rfl) ⟨fun _ => am_rec_ok (c := 12) (by with_unfolding_all rfl) (by decide +kernel), fun z => by simp at z⟩
set_option maxRecDepth 20000 in
theorem b_25i1_17 {d nS : Nat} {x0 x2 x3 x4 s0 : Int32} {M : am_M} {Q : Option Value → am_H → Prop} : am_Wp d 25 17 [.int x0, .ref 101, .int x2, .int x3, .int x4, .retAddr 0] [.int s0] (hp nS M) Q = if s0 = 0 then am_Wp d 25 29 [.int x0, .ref 101, .int x2, .int x3, .int x4, .retAddr 0] [] (hp nS M) Q else am_Wp d 25 20 [.int x0, .ref 101, .int x2, .int x3, .int x4, .retAddr 0] [] (hp nS M) Q := by
  exact eq_if_eq (by with_unfolding_all rfl)
set_option maxRecDepth 20000 in
theorem b_25i1_20 {d nS : Nat} {x0 x2 x3 x4 : Int32} {M : am_M} {Q : Option Value → am_H → Prop} (h1 : vp_in x3 8) : am_Wp d 25 20 [.int x0, .ref 101, .int x2, .int x3, .int x4, .retAddr 0] [] (hp nS M) Q = am_Wp d 25 30 [.int x0, .ref 101, .int x2, .int x3, .int x4, .retAddr 0] [.int (M 107 x3.toNatClampNeg)] (hp nS M) Q := by
  refine (eq_run 3 (q := (25, [.int x0, .ref 101, .int x2, .int x3, .int x4, .retAddr 0], [.int x3, .ref 107], hp nS M)) (by with_unfolding_all rfl)).trans ?_
  refine (eq_ald (e := (.iaload, 1, 0, 0, 0)) (by with_unfolding_all rfl) rfl (n := 8) (by with_unfolding_all rfl) h1).trans ?_
  exact eq_run 1 (q := (30, [.int x0, .ref 101, .int x2, .int x3, .int x4, .retAddr 0], [.int (M 107 x3.toNatClampNeg)], hp nS M)) (by with_unfolding_all rfl)
set_option maxRecDepth 20000 in
theorem b_25i1_29 {d nS : Nat} {x0 x2 x3 x4 : Int32} {M : am_M} {Q : Option Value → am_H → Prop} : am_Wp d 25 29 [.int x0, .ref 101, .int x2, .int x3, .int x4, .retAddr 0] [] (hp nS M) Q = am_Wp d 25 30 [.int x0, .ref 101, .int x2, .int x3, .int x4, .retAddr 0] [.int 0] (hp nS M) Q := by
  exact eq_run 1 (q := (30, [.int x0, .ref 101, .int x2, .int x3, .int x4, .retAddr 0], [.int 0], hp nS M)) (by with_unfolding_all rfl)
set_option maxRecDepth 20000 in
theorem b_25i1_30 {d nS : Nat} {x0 x2 x3 x4 s0 : Int32} {M : am_M} {Q : Option Value → am_H → Prop} : am_Wp d 25 30 [.int x0, .ref 101, .int x2, .int x3, .int x4, .retAddr 0] [.int s0] (hp nS M) Q = if x4 = 0 then am_Wp d 25 52 [.int x0, .ref 101, .int x2, .int x3, .int x4, .int s0] [] (hp nS M) Q else am_Wp d 25 37 [.int x0, .ref 101, .int x2, .int x3, .int x4, .int s0] [] (hp nS M) Q := by
  refine (eq_run 2 (q := (34, [.int x0, .ref 101, .int x2, .int x3, .int x4, .int s0], [.int x4], hp nS M)) (by with_unfolding_all rfl)).trans ?_
  exact eq_if_eq (by with_unfolding_all rfl)
set_option maxRecDepth 20000 in
theorem b_25i1_37 {d nS : Nat} {x0 x2 x3 x4 x5 : Int32} {M : am_M} {Q : Option Value → am_H → Prop} (h1 : vp_in x2 6) : am_Wp d 25 37 [.int x0, .ref 101, .int x2, .int x3, .int x4, .int x5] [] (hp nS M) Q = am_Wp d 25 54 [.int x0, .ref 101, .int x2, .int x3, .int x4, .int x5] [.int (x5 + ((M 103 x2.toNatClampNeg) / 10))] (hp nS M) Q := by
  refine (eq_run 4 (q := (44, [.int x0, .ref 101, .int x2, .int x3, .int x4, .int x5], [.int x2, .ref 103, .int x5], hp nS M)) (by with_unfolding_all rfl)).trans ?_
  refine (eq_ald (e := (.iaload, 1, 0, 0, 0)) (by with_unfolding_all rfl) rfl (n := 6) (by with_unfolding_all rfl) h1).trans ?_
  exact eq_run 4 (q := (54, [.int x0, .ref 101, .int x2, .int x3, .int x4, .int x5], [.int (x5 + ((M 103 x2.toNatClampNeg) / 10))], hp nS M)) (by with_unfolding_all rfl)
set_option maxRecDepth 20000 in
theorem b_25i1_52 {d nS : Nat} {x0 x2 x3 x4 x5 : Int32} {M : am_M} {Q : Option Value → am_H → Prop} : am_Wp d 25 52 [.int x0, .ref 101, .int x2, .int x3, .int x4, .int x5] [] (hp nS M) Q = am_Wp d 25 54 [.int x0, .ref 101, .int x2, .int x3, .int x4, .int x5] [.int x5] (hp nS M) Q := by
  exact eq_run 1 (q := (54, [.int x0, .ref 101, .int x2, .int x3, .int x4, .int x5], [.int x5], hp nS M)) (by with_unfolding_all rfl)
set_option maxRecDepth 20000 in
theorem b_25i1_54 {d nS : Nat} {x0 x2 x3 x4 x5 s0 : Int32} {M : am_M} {Q : Option Value → am_H → Prop} : am_Wp d 25 54 [.int x0, .ref 101, .int x2, .int x3, .int x4, .int x5] [.int s0] (hp nS M) Q = Q (some (.int s0)) (hp nS M) := by
  exact eq_retI2 (e := (.ireturn, 1, 0, 0, 0)) (t := .int) (by with_unfolding_all rfl) rfl (by with_unfolding_all rfl) rfl
set_option maxRecDepth 20000 in
theorem b_25i1_55 {d nS : Nat} {x0 x2 x3 x4 : Int32} {M : am_M} {Q : Option Value → am_H → Prop} : am_Wp d 25 55 [.int x0, .ref 101, .int x2, .int x3, .int x4, .retAddr 0] [] (hp nS M) Q = if ¬ x4 = 0 then am_Wp d 25 62 [.int x0, .ref 101, .int x2, .int x3, .int x4, .retAddr 0] [] (hp nS M) Q else am_Wp d 25 60 [.int x0, .ref 101, .int x2, .int x3, .int x4, .retAddr 0] [] (hp nS M) Q := by
  refine (eq_run 1 (q := (57, [.int x0, .ref 101, .int x2, .int x3, .int x4, .retAddr 0], [.int x4], hp nS M)) (by with_unfolding_all rfl)).trans ?_
  exact eq_if_ne (by with_unfolding_all rfl)
set_option maxRecDepth 20000 in
theorem b_25i1_60 {d nS : Nat} {x0 x2 x3 x4 : Int32} {M : am_M} {Q : Option Value → am_H → Prop} : am_Wp d 25 60 [.int x0, .ref 101, .int x2, .int x3, .int x4, .retAddr 0] [] (hp nS M) Q = Q (some (.int 0)) (hp nS M) := by
  refine (eq_run 1 (q := (61, [.int x0, .ref 101, .int x2, .int x3, .int x4, .retAddr 0], [.int 0], hp nS M)) (by with_unfolding_all rfl)).trans ?_
  exact eq_retI2 (e := (.ireturn, 1, 0, 0, 0)) (t := .int) (by with_unfolding_all rfl) rfl (by with_unfolding_all rfl) rfl
set_option maxRecDepth 20000 in
theorem b_25i1_62 {d nS : Nat} {x0 x2 x3 x4 : Int32} {M : am_M} {Q : Option Value → am_H → Prop} : am_Wp d 25 62 [.int x0, .ref 101, .int x2, .int x3, .int x4, .retAddr 0] [] (hp nS M) Q = if ¬ x0 = 0 then am_Wp d 25 77 [.int x0, .ref 101, .int x2, .int x3, .int x4, .retAddr 0] [] (hp nS M) Q else am_Wp d 25 66 [.int x0, .ref 101, .int x2, .int x3, .int x4, .retAddr 0] [] (hp nS M) Q := by
  refine (eq_run 1 (q := (63, [.int x0, .ref 101, .int x2, .int x3, .int x4, .retAddr 0], [.int x0], hp nS M)) (by with_unfolding_all rfl)).trans ?_
  exact eq_if_ne (by with_unfolding_all rfl)
set_option maxRecDepth 20000 in
theorem b_25i1_66 {d nS : Nat} {x0 x2 x3 x4 : Int32} {M : am_M} {Q : Option Value → am_H → Prop} (h1 : vp_in x2 6) : am_Wp d 25 66 [.int x0, .ref 101, .int x2, .int x3, .int x4, .retAddr 0] [] (hp nS M) Q = am_Wp d 25 99 [.int x0, .ref 101, .int x2, .int x3, .int x4, .retAddr 0] [.int (5 + (M 102 x2.toNatClampNeg))] (hp nS M) Q := by
  refine (eq_run 4 (q := (72, [.int x0, .ref 101, .int x2, .int x3, .int x4, .retAddr 0], [.int x2, .ref 102, .int 5], hp nS M)) (by with_unfolding_all rfl)).trans ?_
  refine (eq_ald (e := (.iaload, 1, 0, 0, 0)) (by with_unfolding_all rfl) rfl (n := 6) (by with_unfolding_all rfl) h1).trans ?_
  exact eq_run 2 (q := (99, [.int x0, .ref 101, .int x2, .int x3, .int x4, .retAddr 0], [.int (5 + (M 102 x2.toNatClampNeg))], hp nS M)) (by with_unfolding_all rfl)
set_option maxRecDepth 20000 in
theorem b_25i1_77 {d nS : Nat} {x0 x2 x3 x4 : Int32} {M : am_M} {Q : Option Value → am_H → Prop} (h1 : vp_in x2 6) (h2 : vp_in x2 6) : am_Wp d 25 77 [.int x0, .ref 101, .int x2, .int x3, .int x4, .retAddr 0] [] (hp nS M) Q = am_Wp d 25 99 [.int x0, .ref 101, .int x2, .int x3, .int x4, .retAddr 0] [.int ((100 + (100 * (M 106 x2.toNatClampNeg))) - (10 * (M 102 x2.toNatClampNeg)))] (hp nS M) Q := by
  refine (eq_run 5 (q := (86, [.int x0, .ref 101, .int x2, .int x3, .int x4, .retAddr 0], [.int x2, .ref 106, .int 100, .int 100], hp nS M)) (by with_unfolding_all rfl)).trans ?_
  refine (eq_ald (e := (.iaload, 1, 0, 0, 0)) (by with_unfolding_all rfl) rfl (n := 6) (by with_unfolding_all rfl) h1).trans ?_
  refine (eq_run 6 (q := (96, [.int x0, .ref 101, .int x2, .int x3, .int x4, .retAddr 0], [.int x2, .ref 102, .int 10, .int (100 + (100 * (M 106 x2.toNatClampNeg)))], hp nS M)) (by with_unfolding_all rfl)).trans ?_
  refine (eq_ald (e := (.iaload, 1, 0, 0, 0)) (by with_unfolding_all rfl) rfl (n := 6) (by with_unfolding_all rfl) h2).trans ?_
  exact eq_run 2 (q := (99, [.int x0, .ref 101, .int x2, .int x3, .int x4, .retAddr 0], [.int ((100 + (100 * (M 106 x2.toNatClampNeg))) - (10 * (M 102 x2.toNatClampNeg)))], hp nS M)) (by with_unfolding_all rfl)
set_option maxRecDepth 20000 in
theorem b_25i1_99 {d nS : Nat} {x0 x2 x3 x4 s0 : Int32} {M : am_M} {Q : Option Value → am_H → Prop} : am_Wp d 25 99 [.int x0, .ref 101, .int x2, .int x3, .int x4, .retAddr 0] [.int s0] (hp nS M) Q = Q (some (.int s0)) (hp nS M) := by
  exact eq_retI2 (e := (.ireturn, 1, 0, 0, 0)) (t := .int) (by with_unfolding_all rfl) rfl (by with_unfolding_all rfl) rfl
-- LarkExchange$Law clears()V (26, (188,))
set_option maxRecDepth 20000 in
theorem b_26_0 {d nS : Nat} {M : am_M} {Q : Option Value → am_H → Prop} : am_Wp d 26 0 [.ref 188] [] (hp nS M) Q = Q none (hp nS (am_up (am_up M 188 0 0) 188 1 0)) := by
  refine (eq_run 6 (q := (10, [.ref 188], [], hp nS (am_up (am_up M 188 0 0) 188 1 0))) (by with_unfolding_all rfl)).trans ?_
  exact eq_retV2 (e := (.return_, 1, 0, 0, 0)) (by with_unfolding_all rfl) rfl (by with_unfolding_all rfl)
-- LarkExchange$Law opens(I)V (27, (188, None))
set_option maxRecDepth 20000 in
theorem b_27_0 {d nS : Nat} {x1 : Int32} {M : am_M} {Q : Option Value → am_H → Prop} : am_Wp d 27 0 [.ref 188, .int x1] [] (hp nS M) Q = if 16 ≤ (M 188 0) then am_Wp d 27 32 [.ref 188, .int x1] [] (hp nS M) Q else am_Wp d 27 9 [.ref 188, .int x1] [] (hp nS M) Q := by
  refine (eq_run 3 (q := (6, [.ref 188, .int x1], [.int 16, .int (M 188 0)], hp nS M)) (by with_unfolding_all rfl)).trans ?_
  exact eq_cmp_ge (by with_unfolding_all rfl)
set_option maxRecDepth 20000 in
theorem b_27_9 {d nS : Nat} {x1 : Int32} {M : am_M} {Q : Option Value → am_H → Prop} (h1 : vp_in (M 188 0) 16) (h2 : vp_in ((am_up M 189 (M 188 0).toNatClampNeg x1) 188 0) 16) : am_Wp d 27 9 [.ref 188, .int x1] [] (hp nS M) Q = am_Wp d 27 32 [.ref 188, .int x1] [] (hp nS (am_up (am_up M 189 (M 188 0).toNatClampNeg x1) 190 ((am_up M 189 (M 188 0).toNatClampNeg x1) 188 0).toNatClampNeg ((am_up M 189 (M 188 0).toNatClampNeg x1) 188 1))) Q := by
  refine (eq_run 5 (q := (18, [.ref 188, .int x1], [.int x1, .int (M 188 0), .ref 189], hp nS M)) (by with_unfolding_all rfl)).trans ?_
  refine (eq_ast (e := (.iastore, 1, 0, 0, 0)) (by with_unfolding_all rfl) rfl (n := 16) (by with_unfolding_all rfl) (by decide) h1).trans ?_
  refine (eq_run 6 (q := (31, [.ref 188, .int x1], [.int ((am_up M 189 (M 188 0).toNatClampNeg x1) 188 1), .int ((am_up M 189 (M 188 0).toNatClampNeg x1) 188 0), .ref 190], hp nS (am_up M 189 (M 188 0).toNatClampNeg x1))) (by with_unfolding_all rfl)).trans ?_
  exact eq_ast (e := (.iastore, 1, 0, 0, 0)) (by with_unfolding_all rfl) rfl (n := 16) (by with_unfolding_all rfl) (by decide) h2
set_option maxRecDepth 20000 in
theorem b_27_32 {d nS : Nat} {x1 : Int32} {M : am_M} {Q : Option Value → am_H → Prop} : am_Wp d 27 32 [.ref 188, .int x1] [] (hp nS M) Q = Q none (hp nS M) := by
  exact eq_retV2 (e := (.return_, 1, 0, 0, 0)) (by with_unfolding_all rfl) rfl (by with_unfolding_all rfl)
-- LarkExchange$Law adds(I)V (28, (188, None))
set_option maxRecDepth 20000 in
theorem b_28_0 {d nS : Nat} {x1 : Int32} {M : am_M} {Q : Option Value → am_H → Prop} : am_Wp d 28 0 [.ref 188, .int x1] [] (hp nS M) Q = if 400 ≤ (M 188 1) then am_Wp d 28 30 [.ref 188, .int x1] [] (hp nS M) Q else am_Wp d 28 10 [.ref 188, .int x1] [] (hp nS M) Q := by
  refine (eq_run 3 (q := (7, [.ref 188, .int x1], [.int 400, .int (M 188 1)], hp nS M)) (by with_unfolding_all rfl)).trans ?_
  exact eq_cmp_ge (by with_unfolding_all rfl)
set_option maxRecDepth 20000 in
theorem b_28_10 {d nS : Nat} {x1 : Int32} {M : am_M} {Q : Option Value → am_H → Prop} (h1 : vp_in (M 188 1) 400) : am_Wp d 28 10 [.ref 188, .int x1] [] (hp nS M) Q = am_Wp d 28 30 [.ref 188, .int x1] [] (hp nS (am_up (am_up M 193 (M 188 1).toNatClampNeg x1) 188 1 (((am_up M 193 (M 188 1).toNatClampNeg x1) 188 1) + 1))) Q := by
  refine (eq_run 5 (q := (19, [.ref 188, .int x1], [.int x1, .int (M 188 1), .ref 193], hp nS M)) (by with_unfolding_all rfl)).trans ?_
  refine (eq_ast (e := (.iastore, 1, 0, 0, 0)) (by with_unfolding_all rfl) rfl (n := 400) (by with_unfolding_all rfl) (by decide) h1).trans ?_
  exact eq_run 6 (q := (30, [.ref 188, .int x1], [], hp nS (am_up (am_up M 193 (M 188 1).toNatClampNeg x1) 188 1 (((am_up M 193 (M 188 1).toNatClampNeg x1) 188 1) + 1)))) (by with_unfolding_all rfl)
set_option maxRecDepth 20000 in
theorem b_28_30 {d nS : Nat} {x1 : Int32} {M : am_M} {Q : Option Value → am_H → Prop} : am_Wp d 28 30 [.ref 188, .int x1] [] (hp nS M) Q = Q none (hp nS M) := by
  exact eq_retV2 (e := (.return_, 1, 0, 0, 0)) (by with_unfolding_all rfl) rfl (by with_unfolding_all rfl)
-- LarkExchange$Law turnsToWhen()V (29, (188,))
set_option maxRecDepth 20000 in
theorem b_29_0 {d nS : Nat} {M : am_M} {Q : Option Value → am_H → Prop} : am_Wp d 29 0 [.ref 188] [] (hp nS M) Q = if 16 ≤ (M 188 0) then am_Wp d 29 22 [.ref 188] [] (hp nS M) Q else am_Wp d 29 9 [.ref 188] [] (hp nS M) Q := by
  refine (eq_run 3 (q := (6, [.ref 188], [.int 16, .int (M 188 0)], hp nS M)) (by with_unfolding_all rfl)).trans ?_
  exact eq_cmp_ge (by with_unfolding_all rfl)
set_option maxRecDepth 20000 in
theorem b_29_9 {d nS : Nat} {M : am_M} {Q : Option Value → am_H → Prop} (h1 : vp_in (M 188 0) 16) : am_Wp d 29 9 [.ref 188] [] (hp nS M) Q = am_Wp d 29 22 [.ref 188] [] (hp nS (am_up M 191 (M 188 0).toNatClampNeg (M 188 1))) Q := by
  refine (eq_run 6 (q := (21, [.ref 188], [.int (M 188 1), .int (M 188 0), .ref 191], hp nS M)) (by with_unfolding_all rfl)).trans ?_
  exact eq_ast (e := (.iastore, 1, 0, 0, 0)) (by with_unfolding_all rfl) rfl (n := 16) (by with_unfolding_all rfl) (by decide) h1
set_option maxRecDepth 20000 in
theorem b_29_22 {d nS : Nat} {M : am_M} {Q : Option Value → am_H → Prop} : am_Wp d 29 22 [.ref 188] [] (hp nS M) Q = Q none (hp nS M) := by
  exact eq_retV2 (e := (.return_, 1, 0, 0, 0)) (by with_unfolding_all rfl) rfl (by with_unfolding_all rfl)
-- LarkExchange$Law closes()V (30, (188,))
set_option maxRecDepth 20000 in
theorem b_30_0 {d nS : Nat} {M : am_M} {Q : Option Value → am_H → Prop} : am_Wp d 30 0 [.ref 188] [] (hp nS M) Q = if 16 ≤ (M 188 0) then am_Wp d 30 32 [.ref 188] [] (hp nS M) Q else am_Wp d 30 9 [.ref 188] [] (hp nS M) Q := by
  refine (eq_run 3 (q := (6, [.ref 188], [.int 16, .int (M 188 0)], hp nS M)) (by with_unfolding_all rfl)).trans ?_
  exact eq_cmp_ge (by with_unfolding_all rfl)
set_option maxRecDepth 20000 in
theorem b_30_9 {d nS : Nat} {M : am_M} {Q : Option Value → am_H → Prop} (h1 : vp_in (M 188 0) 16) : am_Wp d 30 9 [.ref 188] [] (hp nS M) Q = am_Wp d 30 32 [.ref 188] [] (hp nS (am_up (am_up M 192 (M 188 0).toNatClampNeg (M 188 1)) 188 0 (((am_up M 192 (M 188 0).toNatClampNeg (M 188 1)) 188 0) + 1))) Q := by
  refine (eq_run 6 (q := (21, [.ref 188], [.int (M 188 1), .int (M 188 0), .ref 192], hp nS M)) (by with_unfolding_all rfl)).trans ?_
  refine (eq_ast (e := (.iastore, 1, 0, 0, 0)) (by with_unfolding_all rfl) rfl (n := 16) (by with_unfolding_all rfl) (by decide) h1).trans ?_
  exact eq_run 6 (q := (32, [.ref 188], [], hp nS (am_up (am_up M 192 (M 188 0).toNatClampNeg (M 188 1)) 188 0 (((am_up M 192 (M 188 0).toNatClampNeg (M 188 1)) 188 0) + 1)))) (by with_unfolding_all rfl)
set_option maxRecDepth 20000 in
theorem b_30_32 {d nS : Nat} {M : am_M} {Q : Option Value → am_H → Prop} : am_Wp d 30 32 [.ref 188] [] (hp nS M) Q = Q none (hp nS M) := by
  exact eq_retV2 (e := (.return_, 1, 0, 0, 0)) (by with_unfolding_all rfl) rfl (by with_unfolding_all rfl)
-- LarkExchange$Law copyFrom(LLarkExchange$Law;)V (31, (31, 188))
set_option maxRecDepth 20000 in
theorem b_31_0 {d nS : Nat} {M : am_M} {Q : Option Value → am_H → Prop} : am_Wp (d + 1) 31 0 [.ref 31, .ref 188] [] (hp nS M) Q = am_Wp d 131 0 [.ref 189, .ref 32] [] (hp nS (am_up (am_up M 31 0 (M 188 0)) 31 1 ((am_up M 31 0 (M 188 0)) 188 1))) (fun v h1 => am_Wp (d + 1) 31 27 [.ref 31, .ref 188] (am_ans v []) h1 Q) := by
  refine (eq_run 12 (q := (24, [.ref 31, .ref 188], [.ref 32, .ref 189], hp nS (am_up (am_up M 31 0 (M 188 0)) 31 1 ((am_up M 31 0 (M 188 0)) 188 1)))) (by with_unfolding_all rfl)).trans ?_
  exact eq_call2 (e := (.invokestatic 40, 3, 3, 131, 83)) (as := [.ref 189, .ref 32]) (r := []) (n := 2) (m := 2) (by with_unfolding_all rfl) rfl (by decide) (by with_unfolding_all rfl) (by decide) (by with_unfolding_all rfl) ⟨fun z => absurd z (by decide), fun z => by simp at z⟩
set_option maxRecDepth 20000 in
theorem b_31_27 {d nS : Nat} {M : am_M} {Q : Option Value → am_H → Prop} : am_Wp (d + 1) 31 27 [.ref 31, .ref 188] [] (hp nS M) Q = am_Wp d 131 0 [.ref 190, .ref 33] [] (hp nS M) (fun v h1 => am_Wp (d + 1) 31 38 [.ref 31, .ref 188] (am_ans v []) h1 Q) := by
  refine (eq_run 4 (q := (35, [.ref 31, .ref 188], [.ref 33, .ref 190], hp nS M)) (by with_unfolding_all rfl)).trans ?_
  exact eq_call2 (e := (.invokestatic 40, 3, 3, 131, 83)) (as := [.ref 190, .ref 33]) (r := []) (n := 2) (m := 2) (by with_unfolding_all rfl) rfl (by decide) (by with_unfolding_all rfl) (by decide) (by with_unfolding_all rfl) ⟨fun z => absurd z (by decide), fun z => by simp at z⟩
set_option maxRecDepth 20000 in
theorem b_31_38 {d nS : Nat} {M : am_M} {Q : Option Value → am_H → Prop} : am_Wp (d + 1) 31 38 [.ref 31, .ref 188] [] (hp nS M) Q = am_Wp d 131 0 [.ref 191, .ref 34] [] (hp nS M) (fun v h1 => am_Wp (d + 1) 31 49 [.ref 31, .ref 188] (am_ans v []) h1 Q) := by
  refine (eq_run 4 (q := (46, [.ref 31, .ref 188], [.ref 34, .ref 191], hp nS M)) (by with_unfolding_all rfl)).trans ?_
  exact eq_call2 (e := (.invokestatic 40, 3, 3, 131, 83)) (as := [.ref 191, .ref 34]) (r := []) (n := 2) (m := 2) (by with_unfolding_all rfl) rfl (by decide) (by with_unfolding_all rfl) (by decide) (by with_unfolding_all rfl) ⟨fun z => absurd z (by decide), fun z => by simp at z⟩
set_option maxRecDepth 20000 in
theorem b_31_49 {d nS : Nat} {M : am_M} {Q : Option Value → am_H → Prop} : am_Wp (d + 1) 31 49 [.ref 31, .ref 188] [] (hp nS M) Q = am_Wp d 131 0 [.ref 192, .ref 35] [] (hp nS M) (fun v h1 => am_Wp (d + 1) 31 60 [.ref 31, .ref 188] (am_ans v []) h1 Q) := by
  refine (eq_run 4 (q := (57, [.ref 31, .ref 188], [.ref 35, .ref 192], hp nS M)) (by with_unfolding_all rfl)).trans ?_
  exact eq_call2 (e := (.invokestatic 40, 3, 3, 131, 83)) (as := [.ref 192, .ref 35]) (r := []) (n := 2) (m := 2) (by with_unfolding_all rfl) rfl (by decide) (by with_unfolding_all rfl) (by decide) (by with_unfolding_all rfl) ⟨fun z => absurd z (by decide), fun z => by simp at z⟩
set_option maxRecDepth 20000 in
theorem b_31_60 {d nS : Nat} {M : am_M} {Q : Option Value → am_H → Prop} (h1 : 0 ≤ (M 188 1) ∧ (M 188 1).toNatClampNeg ≤ 400 ∧ (M 188 1).toNatClampNeg ≤ 400) : am_Wp (d + 1) 31 60 [.ref 31, .ref 188] [] (hp nS M) Q = Q none (hp nS (am_row M 36 (va_cpy (M 193) (M 36) 0 0 (M 188 1).toNatClampNeg))) := by
  refine (eq_run 8 (q := (74, [.ref 31, .ref 188], [.int (M 188 1), .int 0, .ref 36, .int 0, .ref 193], hp nS M)) (by with_unfolding_all rfl)).trans ?_
  refine (eq_copy2 (e := (.invokestatic 44, 3, 6, 0, 84)) (by with_unfolding_all rfl) rfl rfl (by with_unfolding_all rfl) (by with_unfolding_all rfl) (by decide) (by decide) (by decide) h1).trans ?_
  exact eq_retV2 (e := (.return_, 1, 0, 0, 0)) (by with_unfolding_all rfl) rfl (by with_unfolding_all rfl)
-- LarkExchange$Law copyFrom(LLarkExchange$Law;)V (31, (73, 31))
set_option maxRecDepth 20000 in
theorem b_31i1_0 {d nS : Nat} {M : am_M} {Q : Option Value → am_H → Prop} : am_Wp (d + 1) 31 0 [.ref 73, .ref 31] [] (hp nS M) Q = am_Wp d 131 0 [.ref 32, .ref 74] [] (hp nS (am_up (am_up M 73 0 (M 31 0)) 73 1 ((am_up M 73 0 (M 31 0)) 31 1))) (fun v h1 => am_Wp (d + 1) 31 27 [.ref 73, .ref 31] (am_ans v []) h1 Q) := by
  refine (eq_run 12 (q := (24, [.ref 73, .ref 31], [.ref 74, .ref 32], hp nS (am_up (am_up M 73 0 (M 31 0)) 73 1 ((am_up M 73 0 (M 31 0)) 31 1)))) (by with_unfolding_all rfl)).trans ?_
  exact eq_call2 (e := (.invokestatic 40, 3, 3, 131, 83)) (as := [.ref 32, .ref 74]) (r := []) (n := 2) (m := 2) (by with_unfolding_all rfl) rfl (by decide) (by with_unfolding_all rfl) (by decide) (by with_unfolding_all rfl) ⟨fun z => absurd z (by decide), fun z => by simp at z⟩
set_option maxRecDepth 20000 in
theorem b_31i1_27 {d nS : Nat} {M : am_M} {Q : Option Value → am_H → Prop} : am_Wp (d + 1) 31 27 [.ref 73, .ref 31] [] (hp nS M) Q = am_Wp d 131 0 [.ref 33, .ref 75] [] (hp nS M) (fun v h1 => am_Wp (d + 1) 31 38 [.ref 73, .ref 31] (am_ans v []) h1 Q) := by
  refine (eq_run 4 (q := (35, [.ref 73, .ref 31], [.ref 75, .ref 33], hp nS M)) (by with_unfolding_all rfl)).trans ?_
  exact eq_call2 (e := (.invokestatic 40, 3, 3, 131, 83)) (as := [.ref 33, .ref 75]) (r := []) (n := 2) (m := 2) (by with_unfolding_all rfl) rfl (by decide) (by with_unfolding_all rfl) (by decide) (by with_unfolding_all rfl) ⟨fun z => absurd z (by decide), fun z => by simp at z⟩
set_option maxRecDepth 20000 in
theorem b_31i1_38 {d nS : Nat} {M : am_M} {Q : Option Value → am_H → Prop} : am_Wp (d + 1) 31 38 [.ref 73, .ref 31] [] (hp nS M) Q = am_Wp d 131 0 [.ref 34, .ref 76] [] (hp nS M) (fun v h1 => am_Wp (d + 1) 31 49 [.ref 73, .ref 31] (am_ans v []) h1 Q) := by
  refine (eq_run 4 (q := (46, [.ref 73, .ref 31], [.ref 76, .ref 34], hp nS M)) (by with_unfolding_all rfl)).trans ?_
  exact eq_call2 (e := (.invokestatic 40, 3, 3, 131, 83)) (as := [.ref 34, .ref 76]) (r := []) (n := 2) (m := 2) (by with_unfolding_all rfl) rfl (by decide) (by with_unfolding_all rfl) (by decide) (by with_unfolding_all rfl) ⟨fun z => absurd z (by decide), fun z => by simp at z⟩
set_option maxRecDepth 20000 in
theorem b_31i1_49 {d nS : Nat} {M : am_M} {Q : Option Value → am_H → Prop} : am_Wp (d + 1) 31 49 [.ref 73, .ref 31] [] (hp nS M) Q = am_Wp d 131 0 [.ref 35, .ref 77] [] (hp nS M) (fun v h1 => am_Wp (d + 1) 31 60 [.ref 73, .ref 31] (am_ans v []) h1 Q) := by
  refine (eq_run 4 (q := (57, [.ref 73, .ref 31], [.ref 77, .ref 35], hp nS M)) (by with_unfolding_all rfl)).trans ?_
  exact eq_call2 (e := (.invokestatic 40, 3, 3, 131, 83)) (as := [.ref 35, .ref 77]) (r := []) (n := 2) (m := 2) (by with_unfolding_all rfl) rfl (by decide) (by with_unfolding_all rfl) (by decide) (by with_unfolding_all rfl) ⟨fun z => absurd z (by decide), fun z => by simp at z⟩
set_option maxRecDepth 20000 in
theorem b_31i1_60 {d nS : Nat} {M : am_M} {Q : Option Value → am_H → Prop} (h1 : 0 ≤ (M 31 1) ∧ (M 31 1).toNatClampNeg ≤ 400 ∧ (M 31 1).toNatClampNeg ≤ 400) : am_Wp (d + 1) 31 60 [.ref 73, .ref 31] [] (hp nS M) Q = Q none (hp nS (am_row M 78 (va_cpy (M 36) (M 78) 0 0 (M 31 1).toNatClampNeg))) := by
  refine (eq_run 8 (q := (74, [.ref 73, .ref 31], [.int (M 31 1), .int 0, .ref 78, .int 0, .ref 36], hp nS M)) (by with_unfolding_all rfl)).trans ?_
  refine (eq_copy2 (e := (.invokestatic 44, 3, 6, 0, 84)) (by with_unfolding_all rfl) rfl rfl (by with_unfolding_all rfl) (by with_unfolding_all rfl) (by decide) (by decide) (by decide) h1).trans ?_
  exact eq_retV2 (e := (.return_, 1, 0, 0, 0)) (by with_unfolding_all rfl) rfl (by with_unfolding_all rfl)
-- LarkExchange$Law copyFrom(LLarkExchange$Law;)V (31, (31, 73))
set_option maxRecDepth 20000 in
theorem b_31i2_0 {d nS : Nat} {M : am_M} {Q : Option Value → am_H → Prop} : am_Wp (d + 1) 31 0 [.ref 31, .ref 73] [] (hp nS M) Q = am_Wp d 131 0 [.ref 74, .ref 32] [] (hp nS (am_up (am_up M 31 0 (M 73 0)) 31 1 ((am_up M 31 0 (M 73 0)) 73 1))) (fun v h1 => am_Wp (d + 1) 31 27 [.ref 31, .ref 73] (am_ans v []) h1 Q) := by
  refine (eq_run 12 (q := (24, [.ref 31, .ref 73], [.ref 32, .ref 74], hp nS (am_up (am_up M 31 0 (M 73 0)) 31 1 ((am_up M 31 0 (M 73 0)) 73 1)))) (by with_unfolding_all rfl)).trans ?_
  exact eq_call2 (e := (.invokestatic 40, 3, 3, 131, 83)) (as := [.ref 74, .ref 32]) (r := []) (n := 2) (m := 2) (by with_unfolding_all rfl) rfl (by decide) (by with_unfolding_all rfl) (by decide) (by with_unfolding_all rfl) ⟨fun z => absurd z (by decide), fun z => by simp at z⟩
set_option maxRecDepth 20000 in
theorem b_31i2_27 {d nS : Nat} {M : am_M} {Q : Option Value → am_H → Prop} : am_Wp (d + 1) 31 27 [.ref 31, .ref 73] [] (hp nS M) Q = am_Wp d 131 0 [.ref 75, .ref 33] [] (hp nS M) (fun v h1 => am_Wp (d + 1) 31 38 [.ref 31, .ref 73] (am_ans v []) h1 Q) := by
  refine (eq_run 4 (q := (35, [.ref 31, .ref 73], [.ref 33, .ref 75], hp nS M)) (by with_unfolding_all rfl)).trans ?_
  exact eq_call2 (e := (.invokestatic 40, 3, 3, 131, 83)) (as := [.ref 75, .ref 33]) (r := []) (n := 2) (m := 2) (by with_unfolding_all rfl) rfl (by decide) (by with_unfolding_all rfl) (by decide) (by with_unfolding_all rfl) ⟨fun z => absurd z (by decide), fun z => by simp at z⟩
set_option maxRecDepth 20000 in
theorem b_31i2_38 {d nS : Nat} {M : am_M} {Q : Option Value → am_H → Prop} : am_Wp (d + 1) 31 38 [.ref 31, .ref 73] [] (hp nS M) Q = am_Wp d 131 0 [.ref 76, .ref 34] [] (hp nS M) (fun v h1 => am_Wp (d + 1) 31 49 [.ref 31, .ref 73] (am_ans v []) h1 Q) := by
  refine (eq_run 4 (q := (46, [.ref 31, .ref 73], [.ref 34, .ref 76], hp nS M)) (by with_unfolding_all rfl)).trans ?_
  exact eq_call2 (e := (.invokestatic 40, 3, 3, 131, 83)) (as := [.ref 76, .ref 34]) (r := []) (n := 2) (m := 2) (by with_unfolding_all rfl) rfl (by decide) (by with_unfolding_all rfl) (by decide) (by with_unfolding_all rfl) ⟨fun z => absurd z (by decide), fun z => by simp at z⟩
set_option maxRecDepth 20000 in
theorem b_31i2_49 {d nS : Nat} {M : am_M} {Q : Option Value → am_H → Prop} : am_Wp (d + 1) 31 49 [.ref 31, .ref 73] [] (hp nS M) Q = am_Wp d 131 0 [.ref 77, .ref 35] [] (hp nS M) (fun v h1 => am_Wp (d + 1) 31 60 [.ref 31, .ref 73] (am_ans v []) h1 Q) := by
  refine (eq_run 4 (q := (57, [.ref 31, .ref 73], [.ref 35, .ref 77], hp nS M)) (by with_unfolding_all rfl)).trans ?_
  exact eq_call2 (e := (.invokestatic 40, 3, 3, 131, 83)) (as := [.ref 77, .ref 35]) (r := []) (n := 2) (m := 2) (by with_unfolding_all rfl) rfl (by decide) (by with_unfolding_all rfl) (by decide) (by with_unfolding_all rfl) ⟨fun z => absurd z (by decide), fun z => by simp at z⟩
set_option maxRecDepth 20000 in
theorem b_31i2_60 {d nS : Nat} {M : am_M} {Q : Option Value → am_H → Prop} (h1 : 0 ≤ (M 73 1) ∧ (M 73 1).toNatClampNeg ≤ 400 ∧ (M 73 1).toNatClampNeg ≤ 400) : am_Wp (d + 1) 31 60 [.ref 31, .ref 73] [] (hp nS M) Q = Q none (hp nS (am_row M 36 (va_cpy (M 78) (M 36) 0 0 (M 73 1).toNatClampNeg))) := by
  refine (eq_run 8 (q := (74, [.ref 31, .ref 73], [.int (M 73 1), .int 0, .ref 36, .int 0, .ref 78], hp nS M)) (by with_unfolding_all rfl)).trans ?_
  refine (eq_copy2 (e := (.invokestatic 44, 3, 6, 0, 84)) (by with_unfolding_all rfl) rfl rfl (by with_unfolding_all rfl) (by with_unfolding_all rfl) (by decide) (by decide) (by decide) h1).trans ?_
  exact eq_retV2 (e := (.return_, 1, 0, 0, 0)) (by with_unfolding_all rfl) rfl (by with_unfolding_all rfl)
-- LarkExchange$Lines cell(II)I (33, (41, None, None))
set_option maxRecDepth 20000 in
theorem b_33_0 {d nS : Nat} {x1 x2 : Int32} {M : am_M} {Q : Option Value → am_H → Prop} (h1 : vp_in ((x1 * 5) + x2) 80) : am_Wp d 33 0 [.ref 41, .int x1, .int x2] [] (hp nS M) Q = Q (some (.int (M 42 ((x1 * 5) + x2).toNatClampNeg))) (hp nS M) := by
  refine (eq_run 7 (q := (9, [.ref 41, .int x1, .int x2], [.int ((x1 * 5) + x2), .ref 42], hp nS M)) (by with_unfolding_all rfl)).trans ?_
  refine (eq_ald (e := (.iaload, 1, 0, 0, 0)) (by with_unfolding_all rfl) rfl (n := 80) (by with_unfolding_all rfl) h1).trans ?_
  exact eq_retI2 (e := (.ireturn, 1, 0, 0, 0)) (t := .int) (by with_unfolding_all rfl) rfl (by with_unfolding_all rfl) rfl
-- LarkExchange$Lines cell(II)I (33, (39, None, None))
set_option maxRecDepth 20000 in
theorem b_33i1_0 {d nS : Nat} {x1 x2 : Int32} {M : am_M} {Q : Option Value → am_H → Prop} (h1 : vp_in ((x1 * 5) + x2) 80) : am_Wp d 33 0 [.ref 39, .int x1, .int x2] [] (hp nS M) Q = Q (some (.int (M 40 ((x1 * 5) + x2).toNatClampNeg))) (hp nS M) := by
  refine (eq_run 7 (q := (9, [.ref 39, .int x1, .int x2], [.int ((x1 * 5) + x2), .ref 40], hp nS M)) (by with_unfolding_all rfl)).trans ?_
  refine (eq_ald (e := (.iaload, 1, 0, 0, 0)) (by with_unfolding_all rfl) rfl (n := 80) (by with_unfolding_all rfl) h1).trans ?_
  exact eq_retI2 (e := (.ireturn, 1, 0, 0, 0)) (t := .int) (by with_unfolding_all rfl) rfl (by with_unfolding_all rfl) rfl
-- LarkExchange$Lines cell(II)I (33, (43, None, None))
set_option maxRecDepth 20000 in
theorem b_33i2_0 {d nS : Nat} {x1 x2 : Int32} {M : am_M} {Q : Option Value → am_H → Prop} (h1 : vp_in ((x1 * 5) + x2) 80) : am_Wp d 33 0 [.ref 43, .int x1, .int x2] [] (hp nS M) Q = Q (some (.int (M 44 ((x1 * 5) + x2).toNatClampNeg))) (hp nS M) := by
  refine (eq_run 7 (q := (9, [.ref 43, .int x1, .int x2], [.int ((x1 * 5) + x2), .ref 44], hp nS M)) (by with_unfolding_all rfl)).trans ?_
  refine (eq_ald (e := (.iaload, 1, 0, 0, 0)) (by with_unfolding_all rfl) rfl (n := 80) (by with_unfolding_all rfl) h1).trans ?_
  exact eq_retI2 (e := (.ireturn, 1, 0, 0, 0)) (t := .int) (by with_unfolding_all rfl) rfl (by with_unfolding_all rfl) rfl
-- LarkExchange$Lines adds(IIIII)V (34, (196, None, None, None, None, None))
set_option maxRecDepth 20000 in
theorem b_34_0 {d nS : Nat} {x1 x2 x3 x4 x5 : Int32} {M : am_M} {Q : Option Value → am_H → Prop} : am_Wp d 34 0 [.ref 196, .int x1, .int x2, .int x3, .int x4, .int x5, .retAddr 0] [] (hp nS M) Q = if (M 196 1) < 16 then am_Wp d 34 10 [.ref 196, .int x1, .int x2, .int x3, .int x4, .int x5, .retAddr 0] [] (hp nS M) Q else am_Wp d 34 9 [.ref 196, .int x1, .int x2, .int x3, .int x4, .int x5, .retAddr 0] [] (hp nS M) Q := by
  refine (eq_run 3 (q := (6, [.ref 196, .int x1, .int x2, .int x3, .int x4, .int x5, .retAddr 0], [.int 16, .int (M 196 1)], hp nS M)) (by with_unfolding_all rfl)).trans ?_
  exact eq_cmp_lt (by with_unfolding_all rfl)
set_option maxRecDepth 20000 in
theorem b_34_9 {d nS : Nat} {x1 x2 x3 x4 x5 : Int32} {M : am_M} {Q : Option Value → am_H → Prop} : am_Wp d 34 9 [.ref 196, .int x1, .int x2, .int x3, .int x4, .int x5, .retAddr 0] [] (hp nS M) Q = Q none (hp nS M) := by
  exact eq_retV2 (e := (.return_, 1, 0, 0, 0)) (by with_unfolding_all rfl) rfl (by with_unfolding_all rfl)
set_option maxRecDepth 20000 in
theorem b_34_10 {d nS : Nat} {x1 x2 x3 x4 x5 : Int32} {M : am_M} {Q : Option Value → am_H → Prop} (h1 : vp_in ((M 196 1) * 5) 80) (h2 : vp_in (((M 196 1) * 5) + 1) 80) (h3 : vp_in (((M 196 1) * 5) + 2) 80) (h4 : vp_in (((M 196 1) * 5) + 3) 80) (h5 : vp_in (((M 196 1) * 5) + 4) 80) : am_Wp d 34 10 [.ref 196, .int x1, .int x2, .int x3, .int x4, .int x5, .retAddr 0] [] (hp nS M) Q = Q none (hp nS (am_up (am_up (am_up (am_up (am_up (am_up M 197 ((M 196 1) * 5).toNatClampNeg x1) 197 (((M 196 1) * 5) + 1).toNatClampNeg x2) 197 (((M 196 1) * 5) + 2).toNatClampNeg x3) 197 (((M 196 1) * 5) + 3).toNatClampNeg x4) 197 (((M 196 1) * 5) + 4).toNatClampNeg x5) 196 1 (((am_up (am_up (am_up (am_up (am_up M 197 ((M 196 1) * 5).toNatClampNeg x1) 197 (((M 196 1) * 5) + 1).toNatClampNeg x2) 197 (((M 196 1) * 5) + 2).toNatClampNeg x3) 197 (((M 196 1) * 5) + 3).toNatClampNeg x4) 197 (((M 196 1) * 5) + 4).toNatClampNeg x5) 196 1) + 1))) := by
  refine (eq_run 9 (q := (25, [.ref 196, .int x1, .int x2, .int x3, .int x4, .int x5, .int ((M 196 1) * 5)], [.int x1, .int ((M 196 1) * 5), .ref 197], hp nS M)) (by with_unfolding_all rfl)).trans ?_
  refine (eq_ast (e := (.iastore, 1, 0, 0, 0)) (by with_unfolding_all rfl) rfl (n := 80) (by with_unfolding_all rfl) (by decide) h1).trans ?_
  refine (eq_run 6 (q := (35, [.ref 196, .int x1, .int x2, .int x3, .int x4, .int x5, .int ((M 196 1) * 5)], [.int x2, .int (((M 196 1) * 5) + 1), .ref 197], hp nS (am_up M 197 ((M 196 1) * 5).toNatClampNeg x1))) (by with_unfolding_all rfl)).trans ?_
  refine (eq_ast (e := (.iastore, 1, 0, 0, 0)) (by with_unfolding_all rfl) rfl (n := 80) (by with_unfolding_all rfl) (by decide) h2).trans ?_
  refine (eq_run 6 (q := (45, [.ref 196, .int x1, .int x2, .int x3, .int x4, .int x5, .int ((M 196 1) * 5)], [.int x3, .int (((M 196 1) * 5) + 2), .ref 197], hp nS (am_up (am_up M 197 ((M 196 1) * 5).toNatClampNeg x1) 197 (((M 196 1) * 5) + 1).toNatClampNeg x2))) (by with_unfolding_all rfl)).trans ?_
  refine (eq_ast (e := (.iastore, 1, 0, 0, 0)) (by with_unfolding_all rfl) rfl (n := 80) (by with_unfolding_all rfl) (by decide) h3).trans ?_
  refine (eq_run 6 (q := (56, [.ref 196, .int x1, .int x2, .int x3, .int x4, .int x5, .int ((M 196 1) * 5)], [.int x4, .int (((M 196 1) * 5) + 3), .ref 197], hp nS (am_up (am_up (am_up M 197 ((M 196 1) * 5).toNatClampNeg x1) 197 (((M 196 1) * 5) + 1).toNatClampNeg x2) 197 (((M 196 1) * 5) + 2).toNatClampNeg x3))) (by with_unfolding_all rfl)).trans ?_
  refine (eq_ast (e := (.iastore, 1, 0, 0, 0)) (by with_unfolding_all rfl) rfl (n := 80) (by with_unfolding_all rfl) (by decide) h4).trans ?_
  refine (eq_run 6 (q := (67, [.ref 196, .int x1, .int x2, .int x3, .int x4, .int x5, .int ((M 196 1) * 5)], [.int x5, .int (((M 196 1) * 5) + 4), .ref 197], hp nS (am_up (am_up (am_up (am_up M 197 ((M 196 1) * 5).toNatClampNeg x1) 197 (((M 196 1) * 5) + 1).toNatClampNeg x2) 197 (((M 196 1) * 5) + 2).toNatClampNeg x3) 197 (((M 196 1) * 5) + 3).toNatClampNeg x4))) (by with_unfolding_all rfl)).trans ?_
  refine (eq_ast (e := (.iastore, 1, 0, 0, 0)) (by with_unfolding_all rfl) rfl (n := 80) (by with_unfolding_all rfl) (by decide) h5).trans ?_
  refine (eq_run 6 (q := (78, [.ref 196, .int x1, .int x2, .int x3, .int x4, .int x5, .int ((M 196 1) * 5)], [], hp nS (am_up (am_up (am_up (am_up (am_up (am_up M 197 ((M 196 1) * 5).toNatClampNeg x1) 197 (((M 196 1) * 5) + 1).toNatClampNeg x2) 197 (((M 196 1) * 5) + 2).toNatClampNeg x3) 197 (((M 196 1) * 5) + 3).toNatClampNeg x4) 197 (((M 196 1) * 5) + 4).toNatClampNeg x5) 196 1 (((am_up (am_up (am_up (am_up (am_up M 197 ((M 196 1) * 5).toNatClampNeg x1) 197 (((M 196 1) * 5) + 1).toNatClampNeg x2) 197 (((M 196 1) * 5) + 2).toNatClampNeg x3) 197 (((M 196 1) * 5) + 3).toNatClampNeg x4) 197 (((M 196 1) * 5) + 4).toNatClampNeg x5) 196 1) + 1)))) (by with_unfolding_all rfl)).trans ?_
  exact eq_retV2 (e := (.return_, 1, 0, 0, 0)) (by with_unfolding_all rfl) rfl (by with_unfolding_all rfl)
-- LarkExchange$Lines copyFrom(LLarkExchange$Lines;)V (35, (39, 196))
set_option maxRecDepth 20000 in
theorem b_35_0 {d nS : Nat} {M : am_M} {Q : Option Value → am_H → Prop} : am_Wp (d + 1) 35 0 [.ref 39, .ref 196] [] (hp nS M) Q = am_Wp d 131 0 [.ref 197, .ref 40] [] (hp nS M) (fun v h1 => am_Wp (d + 1) 35 11 [.ref 39, .ref 196] (am_ans v []) h1 Q) := by
  refine (eq_run 4 (q := (8, [.ref 39, .ref 196], [.ref 40, .ref 197], hp nS M)) (by with_unfolding_all rfl)).trans ?_
  exact eq_call2 (e := (.invokestatic 15, 3, 3, 131, 95)) (as := [.ref 197, .ref 40]) (r := []) (n := 2) (m := 2) (by with_unfolding_all rfl) rfl (by decide) (by with_unfolding_all rfl) (by decide) (by with_unfolding_all rfl) ⟨fun z => absurd z (by decide), fun z => by simp at z⟩
set_option maxRecDepth 20000 in
theorem b_35_11 {d nS : Nat} {M : am_M} {Q : Option Value → am_H → Prop} : am_Wp d 35 11 [.ref 39, .ref 196] [] (hp nS M) Q = Q none (hp nS (am_up M 39 1 (M 196 1))) := by
  refine (eq_run 4 (q := (19, [.ref 39, .ref 196], [], hp nS (am_up M 39 1 (M 196 1)))) (by with_unfolding_all rfl)).trans ?_
  exact eq_retV2 (e := (.return_, 1, 0, 0, 0)) (by with_unfolding_all rfl) rfl (by with_unfolding_all rfl)
-- LarkExchange$Lines copyFrom(LLarkExchange$Lines;)V (35, (41, 196))
set_option maxRecDepth 20000 in
theorem b_35i1_0 {d nS : Nat} {M : am_M} {Q : Option Value → am_H → Prop} : am_Wp (d + 1) 35 0 [.ref 41, .ref 196] [] (hp nS M) Q = am_Wp d 131 0 [.ref 197, .ref 42] [] (hp nS M) (fun v h1 => am_Wp (d + 1) 35 11 [.ref 41, .ref 196] (am_ans v []) h1 Q) := by
  refine (eq_run 4 (q := (8, [.ref 41, .ref 196], [.ref 42, .ref 197], hp nS M)) (by with_unfolding_all rfl)).trans ?_
  exact eq_call2 (e := (.invokestatic 15, 3, 3, 131, 95)) (as := [.ref 197, .ref 42]) (r := []) (n := 2) (m := 2) (by with_unfolding_all rfl) rfl (by decide) (by with_unfolding_all rfl) (by decide) (by with_unfolding_all rfl) ⟨fun z => absurd z (by decide), fun z => by simp at z⟩
set_option maxRecDepth 20000 in
theorem b_35i1_11 {d nS : Nat} {M : am_M} {Q : Option Value → am_H → Prop} : am_Wp d 35 11 [.ref 41, .ref 196] [] (hp nS M) Q = Q none (hp nS (am_up M 41 1 (M 196 1))) := by
  refine (eq_run 4 (q := (19, [.ref 41, .ref 196], [], hp nS (am_up M 41 1 (M 196 1)))) (by with_unfolding_all rfl)).trans ?_
  exact eq_retV2 (e := (.return_, 1, 0, 0, 0)) (by with_unfolding_all rfl) rfl (by with_unfolding_all rfl)
-- LarkExchange$Lines copyFrom(LLarkExchange$Lines;)V (35, (43, 196))
set_option maxRecDepth 20000 in
theorem b_35i2_0 {d nS : Nat} {M : am_M} {Q : Option Value → am_H → Prop} : am_Wp (d + 1) 35 0 [.ref 43, .ref 196] [] (hp nS M) Q = am_Wp d 131 0 [.ref 197, .ref 44] [] (hp nS M) (fun v h1 => am_Wp (d + 1) 35 11 [.ref 43, .ref 196] (am_ans v []) h1 Q) := by
  refine (eq_run 4 (q := (8, [.ref 43, .ref 196], [.ref 44, .ref 197], hp nS M)) (by with_unfolding_all rfl)).trans ?_
  exact eq_call2 (e := (.invokestatic 15, 3, 3, 131, 95)) (as := [.ref 197, .ref 44]) (r := []) (n := 2) (m := 2) (by with_unfolding_all rfl) rfl (by decide) (by with_unfolding_all rfl) (by decide) (by with_unfolding_all rfl) ⟨fun z => absurd z (by decide), fun z => by simp at z⟩
set_option maxRecDepth 20000 in
theorem b_35i2_11 {d nS : Nat} {M : am_M} {Q : Option Value → am_H → Prop} : am_Wp d 35 11 [.ref 43, .ref 196] [] (hp nS M) Q = Q none (hp nS (am_up M 43 1 (M 196 1))) := by
  refine (eq_run 4 (q := (19, [.ref 43, .ref 196], [], hp nS (am_up M 43 1 (M 196 1)))) (by with_unfolding_all rfl)).trans ?_
  exact eq_retV2 (e := (.return_, 1, 0, 0, 0)) (by with_unfolding_all rfl) rfl (by with_unfolding_all rfl)
-- LarkExchange$Lines copyFrom(LLarkExchange$Lines;)V (35, (81, 39))
set_option maxRecDepth 20000 in
theorem b_35i3_0 {d nS : Nat} {M : am_M} {Q : Option Value → am_H → Prop} : am_Wp (d + 1) 35 0 [.ref 81, .ref 39] [] (hp nS M) Q = am_Wp d 131 0 [.ref 40, .ref 82] [] (hp nS M) (fun v h1 => am_Wp (d + 1) 35 11 [.ref 81, .ref 39] (am_ans v []) h1 Q) := by
  refine (eq_run 4 (q := (8, [.ref 81, .ref 39], [.ref 82, .ref 40], hp nS M)) (by with_unfolding_all rfl)).trans ?_
  exact eq_call2 (e := (.invokestatic 15, 3, 3, 131, 95)) (as := [.ref 40, .ref 82]) (r := []) (n := 2) (m := 2) (by with_unfolding_all rfl) rfl (by decide) (by with_unfolding_all rfl) (by decide) (by with_unfolding_all rfl) ⟨fun z => absurd z (by decide), fun z => by simp at z⟩
set_option maxRecDepth 20000 in
theorem b_35i3_11 {d nS : Nat} {M : am_M} {Q : Option Value → am_H → Prop} : am_Wp d 35 11 [.ref 81, .ref 39] [] (hp nS M) Q = Q none (hp nS (am_up M 81 1 (M 39 1))) := by
  refine (eq_run 4 (q := (19, [.ref 81, .ref 39], [], hp nS (am_up M 81 1 (M 39 1)))) (by with_unfolding_all rfl)).trans ?_
  exact eq_retV2 (e := (.return_, 1, 0, 0, 0)) (by with_unfolding_all rfl) rfl (by with_unfolding_all rfl)
-- LarkExchange$Lines copyFrom(LLarkExchange$Lines;)V (35, (83, 41))
set_option maxRecDepth 20000 in
theorem b_35i4_0 {d nS : Nat} {M : am_M} {Q : Option Value → am_H → Prop} : am_Wp (d + 1) 35 0 [.ref 83, .ref 41] [] (hp nS M) Q = am_Wp d 131 0 [.ref 42, .ref 84] [] (hp nS M) (fun v h1 => am_Wp (d + 1) 35 11 [.ref 83, .ref 41] (am_ans v []) h1 Q) := by
  refine (eq_run 4 (q := (8, [.ref 83, .ref 41], [.ref 84, .ref 42], hp nS M)) (by with_unfolding_all rfl)).trans ?_
  exact eq_call2 (e := (.invokestatic 15, 3, 3, 131, 95)) (as := [.ref 42, .ref 84]) (r := []) (n := 2) (m := 2) (by with_unfolding_all rfl) rfl (by decide) (by with_unfolding_all rfl) (by decide) (by with_unfolding_all rfl) ⟨fun z => absurd z (by decide), fun z => by simp at z⟩
set_option maxRecDepth 20000 in
theorem b_35i4_11 {d nS : Nat} {M : am_M} {Q : Option Value → am_H → Prop} : am_Wp d 35 11 [.ref 83, .ref 41] [] (hp nS M) Q = Q none (hp nS (am_up M 83 1 (M 41 1))) := by
  refine (eq_run 4 (q := (19, [.ref 83, .ref 41], [], hp nS (am_up M 83 1 (M 41 1)))) (by with_unfolding_all rfl)).trans ?_
  exact eq_retV2 (e := (.return_, 1, 0, 0, 0)) (by with_unfolding_all rfl) rfl (by with_unfolding_all rfl)
-- LarkExchange$Lines copyFrom(LLarkExchange$Lines;)V (35, (85, 43))
set_option maxRecDepth 20000 in
theorem b_35i5_0 {d nS : Nat} {M : am_M} {Q : Option Value → am_H → Prop} : am_Wp (d + 1) 35 0 [.ref 85, .ref 43] [] (hp nS M) Q = am_Wp d 131 0 [.ref 44, .ref 86] [] (hp nS M) (fun v h1 => am_Wp (d + 1) 35 11 [.ref 85, .ref 43] (am_ans v []) h1 Q) := by
  refine (eq_run 4 (q := (8, [.ref 85, .ref 43], [.ref 86, .ref 44], hp nS M)) (by with_unfolding_all rfl)).trans ?_
  exact eq_call2 (e := (.invokestatic 15, 3, 3, 131, 95)) (as := [.ref 44, .ref 86]) (r := []) (n := 2) (m := 2) (by with_unfolding_all rfl) rfl (by decide) (by with_unfolding_all rfl) (by decide) (by with_unfolding_all rfl) ⟨fun z => absurd z (by decide), fun z => by simp at z⟩
set_option maxRecDepth 20000 in
theorem b_35i5_11 {d nS : Nat} {M : am_M} {Q : Option Value → am_H → Prop} : am_Wp d 35 11 [.ref 85, .ref 43] [] (hp nS M) Q = Q none (hp nS (am_up M 85 1 (M 43 1))) := by
  refine (eq_run 4 (q := (19, [.ref 85, .ref 43], [], hp nS (am_up M 85 1 (M 43 1)))) (by with_unfolding_all rfl)).trans ?_
  exact eq_retV2 (e := (.return_, 1, 0, 0, 0)) (by with_unfolding_all rfl) rfl (by with_unfolding_all rfl)
-- LarkExchange$Lines copyFrom(LLarkExchange$Lines;)V (35, (39, 81))
set_option maxRecDepth 20000 in
theorem b_35i6_0 {d nS : Nat} {M : am_M} {Q : Option Value → am_H → Prop} : am_Wp (d + 1) 35 0 [.ref 39, .ref 81] [] (hp nS M) Q = am_Wp d 131 0 [.ref 82, .ref 40] [] (hp nS M) (fun v h1 => am_Wp (d + 1) 35 11 [.ref 39, .ref 81] (am_ans v []) h1 Q) := by
  refine (eq_run 4 (q := (8, [.ref 39, .ref 81], [.ref 40, .ref 82], hp nS M)) (by with_unfolding_all rfl)).trans ?_
  exact eq_call2 (e := (.invokestatic 15, 3, 3, 131, 95)) (as := [.ref 82, .ref 40]) (r := []) (n := 2) (m := 2) (by with_unfolding_all rfl) rfl (by decide) (by with_unfolding_all rfl) (by decide) (by with_unfolding_all rfl) ⟨fun z => absurd z (by decide), fun z => by simp at z⟩
set_option maxRecDepth 20000 in
theorem b_35i6_11 {d nS : Nat} {M : am_M} {Q : Option Value → am_H → Prop} : am_Wp d 35 11 [.ref 39, .ref 81] [] (hp nS M) Q = Q none (hp nS (am_up M 39 1 (M 81 1))) := by
  refine (eq_run 4 (q := (19, [.ref 39, .ref 81], [], hp nS (am_up M 39 1 (M 81 1)))) (by with_unfolding_all rfl)).trans ?_
  exact eq_retV2 (e := (.return_, 1, 0, 0, 0)) (by with_unfolding_all rfl) rfl (by with_unfolding_all rfl)
-- LarkExchange$Lines copyFrom(LLarkExchange$Lines;)V (35, (41, 83))
set_option maxRecDepth 20000 in
theorem b_35i7_0 {d nS : Nat} {M : am_M} {Q : Option Value → am_H → Prop} : am_Wp (d + 1) 35 0 [.ref 41, .ref 83] [] (hp nS M) Q = am_Wp d 131 0 [.ref 84, .ref 42] [] (hp nS M) (fun v h1 => am_Wp (d + 1) 35 11 [.ref 41, .ref 83] (am_ans v []) h1 Q) := by
  refine (eq_run 4 (q := (8, [.ref 41, .ref 83], [.ref 42, .ref 84], hp nS M)) (by with_unfolding_all rfl)).trans ?_
  exact eq_call2 (e := (.invokestatic 15, 3, 3, 131, 95)) (as := [.ref 84, .ref 42]) (r := []) (n := 2) (m := 2) (by with_unfolding_all rfl) rfl (by decide) (by with_unfolding_all rfl) (by decide) (by with_unfolding_all rfl) ⟨fun z => absurd z (by decide), fun z => by simp at z⟩
set_option maxRecDepth 20000 in
theorem b_35i7_11 {d nS : Nat} {M : am_M} {Q : Option Value → am_H → Prop} : am_Wp d 35 11 [.ref 41, .ref 83] [] (hp nS M) Q = Q none (hp nS (am_up M 41 1 (M 83 1))) := by
  refine (eq_run 4 (q := (19, [.ref 41, .ref 83], [], hp nS (am_up M 41 1 (M 83 1)))) (by with_unfolding_all rfl)).trans ?_
  exact eq_retV2 (e := (.return_, 1, 0, 0, 0)) (by with_unfolding_all rfl) rfl (by with_unfolding_all rfl)
-- LarkExchange$Lines copyFrom(LLarkExchange$Lines;)V (35, (43, 85))
set_option maxRecDepth 20000 in
theorem b_35i8_0 {d nS : Nat} {M : am_M} {Q : Option Value → am_H → Prop} : am_Wp (d + 1) 35 0 [.ref 43, .ref 85] [] (hp nS M) Q = am_Wp d 131 0 [.ref 86, .ref 44] [] (hp nS M) (fun v h1 => am_Wp (d + 1) 35 11 [.ref 43, .ref 85] (am_ans v []) h1 Q) := by
  refine (eq_run 4 (q := (8, [.ref 43, .ref 85], [.ref 44, .ref 86], hp nS M)) (by with_unfolding_all rfl)).trans ?_
  exact eq_call2 (e := (.invokestatic 15, 3, 3, 131, 95)) (as := [.ref 86, .ref 44]) (r := []) (n := 2) (m := 2) (by with_unfolding_all rfl) rfl (by decide) (by with_unfolding_all rfl) (by decide) (by with_unfolding_all rfl) ⟨fun z => absurd z (by decide), fun z => by simp at z⟩
set_option maxRecDepth 20000 in
theorem b_35i8_11 {d nS : Nat} {M : am_M} {Q : Option Value → am_H → Prop} : am_Wp d 35 11 [.ref 43, .ref 85] [] (hp nS M) Q = Q none (hp nS (am_up M 43 1 (M 85 1))) := by
  refine (eq_run 4 (q := (19, [.ref 43, .ref 85], [], hp nS (am_up M 43 1 (M 85 1)))) (by with_unfolding_all rfl)).trans ?_
  exact eq_retV2 (e := (.return_, 1, 0, 0, 0)) (by with_unfolding_all rfl) rfl (by with_unfolding_all rfl)
-- LarkExchange$Past forget()V (37, (113,))
set_option maxRecDepth 20000 in
theorem b_37_0 {d nS : Nat} {M : am_M} {Q : Option Value → am_H → Prop} : am_Wp d 37 0 [.ref 113] [] (hp nS M) Q = Q none (hp nS (am_up M 113 2 0)) := by
  refine (eq_run 3 (q := (5, [.ref 113], [], hp nS (am_up M 113 2 0))) (by with_unfolding_all rfl)).trans ?_
  exact eq_retV2 (e := (.return_, 1, 0, 0, 0)) (by with_unfolding_all rfl) rfl (by with_unfolding_all rfl)
-- LarkExchange$Past keep(LLarkExchange$World;)V (38, (113, 18))
set_option maxRecDepth 20000 in
theorem b_38_0 {d nS : Nat} {M : am_M} {Q : Option Value → am_H → Prop} (h1 : vp_in (M 113 1) 6) : am_Wp d 38 0 [.ref 113, .ref 18] [] (hp nS M) Q = if M 113 1 = 0 then am_Wp d 38 9 [.ref 113, .ref 18] [.ref 115] (hp nS M) Q else if M 113 1 = 1 then am_Wp d 38 9 [.ref 113, .ref 18] [.ref 127] (hp nS M) Q else if M 113 1 = 2 then am_Wp d 38 9 [.ref 113, .ref 18] [.ref 139] (hp nS M) Q else if M 113 1 = 3 then am_Wp d 38 9 [.ref 113, .ref 18] [.ref 151] (hp nS M) Q else if M 113 1 = 4 then am_Wp d 38 9 [.ref 113, .ref 18] [.ref 163] (hp nS M) Q else am_Wp d 38 9 [.ref 113, .ref 18] [.ref 175] (hp nS M) Q := by
  refine (eq_run 4 (q := (8, [.ref 113, .ref 18], [.int (M 113 1), .ref 114], hp nS M)) (by with_unfolding_all rfl)).trans ?_
  by_cases c0 : M 113 1 = 0
  · rw [if_pos c0]; exact eq_aal (e := (.aaload, 1, 0, 0, 0)) (by with_unfolding_all rfl) rfl (n := 6) (by with_unfolding_all rfl) (by with_unfolding_all rfl) c0 (by decide)
  rw [if_neg c0]
  by_cases c1 : M 113 1 = 1
  · rw [if_pos c1]; exact eq_aal (e := (.aaload, 1, 0, 0, 0)) (by with_unfolding_all rfl) rfl (n := 6) (by with_unfolding_all rfl) (by with_unfolding_all rfl) c1 (by decide)
  rw [if_neg c1]
  by_cases c2 : M 113 1 = 2
  · rw [if_pos c2]; exact eq_aal (e := (.aaload, 1, 0, 0, 0)) (by with_unfolding_all rfl) rfl (n := 6) (by with_unfolding_all rfl) (by with_unfolding_all rfl) c2 (by decide)
  rw [if_neg c2]
  by_cases c3 : M 113 1 = 3
  · rw [if_pos c3]; exact eq_aal (e := (.aaload, 1, 0, 0, 0)) (by with_unfolding_all rfl) rfl (n := 6) (by with_unfolding_all rfl) (by with_unfolding_all rfl) c3 (by decide)
  rw [if_neg c3]
  by_cases c4 : M 113 1 = 4
  · rw [if_pos c4]; exact eq_aal (e := (.aaload, 1, 0, 0, 0)) (by with_unfolding_all rfl) rfl (n := 6) (by with_unfolding_all rfl) (by with_unfolding_all rfl) c4 (by decide)
  rw [if_neg c4]
  have c5 : M 113 1 = 5 := in_last h1 c0 c1 c2 c3 c4
  exact eq_aal (e := (.aaload, 1, 0, 0, 0)) (by with_unfolding_all rfl) rfl (n := 6) (by with_unfolding_all rfl) (by with_unfolding_all rfl) c5 (by decide)
set_option maxRecDepth 20000 in
theorem b_38_9 {d nS : Nat} {M : am_M} {Q : Option Value → am_H → Prop} : am_Wp (d + 1) 38 9 [.ref 113, .ref 18] [.ref 115] (hp nS M) Q = am_Wp d 111 0 [.ref 115, .ref 18] [] (hp nS M) (fun v h1 => am_Wp (d + 1) 38 13 [.ref 113, .ref 18] (am_ans v []) h1 Q) := by
  refine (eq_run 1 (q := (10, [.ref 113, .ref 18], [.ref 18, .ref 115], hp nS M)) (by with_unfolding_all rfl)).trans ?_
  exact eq_call2 (e := (.invokevirtual 20, 3, 0, 111, 98)) (as := [.ref 115, .ref 18]) (r := []) (n := 2) (m := 2) (by with_unfolding_all rfl) rfl (by decide) (by with_unfolding_all rfl) (by decide) (by with_unfolding_all rfl) ⟨fun _ => am_rec_ok (c := 12) (by with_unfolding_all rfl) (by decide +kernel), fun z => by simp at z⟩
set_option maxRecDepth 20000 in
theorem b_38_9v1 {d nS : Nat} {M : am_M} {Q : Option Value → am_H → Prop} : am_Wp (d + 1) 38 9 [.ref 113, .ref 18] [.ref 127] (hp nS M) Q = am_Wp d 111 0 [.ref 127, .ref 18] [] (hp nS M) (fun v h1 => am_Wp (d + 1) 38 13 [.ref 113, .ref 18] (am_ans v []) h1 Q) := by
  refine (eq_run 1 (q := (10, [.ref 113, .ref 18], [.ref 18, .ref 127], hp nS M)) (by with_unfolding_all rfl)).trans ?_
  exact eq_call2 (e := (.invokevirtual 20, 3, 0, 111, 98)) (as := [.ref 127, .ref 18]) (r := []) (n := 2) (m := 2) (by with_unfolding_all rfl) rfl (by decide) (by with_unfolding_all rfl) (by decide) (by with_unfolding_all rfl) ⟨fun _ => am_rec_ok (c := 12) (by with_unfolding_all rfl) (by decide +kernel), fun z => by simp at z⟩
set_option maxRecDepth 20000 in
theorem b_38_9v2 {d nS : Nat} {M : am_M} {Q : Option Value → am_H → Prop} : am_Wp (d + 1) 38 9 [.ref 113, .ref 18] [.ref 139] (hp nS M) Q = am_Wp d 111 0 [.ref 139, .ref 18] [] (hp nS M) (fun v h1 => am_Wp (d + 1) 38 13 [.ref 113, .ref 18] (am_ans v []) h1 Q) := by
  refine (eq_run 1 (q := (10, [.ref 113, .ref 18], [.ref 18, .ref 139], hp nS M)) (by with_unfolding_all rfl)).trans ?_
  exact eq_call2 (e := (.invokevirtual 20, 3, 0, 111, 98)) (as := [.ref 139, .ref 18]) (r := []) (n := 2) (m := 2) (by with_unfolding_all rfl) rfl (by decide) (by with_unfolding_all rfl) (by decide) (by with_unfolding_all rfl) ⟨fun _ => am_rec_ok (c := 12) (by with_unfolding_all rfl) (by decide +kernel), fun z => by simp at z⟩
set_option maxRecDepth 20000 in
theorem b_38_9v3 {d nS : Nat} {M : am_M} {Q : Option Value → am_H → Prop} : am_Wp (d + 1) 38 9 [.ref 113, .ref 18] [.ref 151] (hp nS M) Q = am_Wp d 111 0 [.ref 151, .ref 18] [] (hp nS M) (fun v h1 => am_Wp (d + 1) 38 13 [.ref 113, .ref 18] (am_ans v []) h1 Q) := by
  refine (eq_run 1 (q := (10, [.ref 113, .ref 18], [.ref 18, .ref 151], hp nS M)) (by with_unfolding_all rfl)).trans ?_
  exact eq_call2 (e := (.invokevirtual 20, 3, 0, 111, 98)) (as := [.ref 151, .ref 18]) (r := []) (n := 2) (m := 2) (by with_unfolding_all rfl) rfl (by decide) (by with_unfolding_all rfl) (by decide) (by with_unfolding_all rfl) ⟨fun _ => am_rec_ok (c := 12) (by with_unfolding_all rfl) (by decide +kernel), fun z => by simp at z⟩
set_option maxRecDepth 20000 in
theorem b_38_9v4 {d nS : Nat} {M : am_M} {Q : Option Value → am_H → Prop} : am_Wp (d + 1) 38 9 [.ref 113, .ref 18] [.ref 163] (hp nS M) Q = am_Wp d 111 0 [.ref 163, .ref 18] [] (hp nS M) (fun v h1 => am_Wp (d + 1) 38 13 [.ref 113, .ref 18] (am_ans v []) h1 Q) := by
  refine (eq_run 1 (q := (10, [.ref 113, .ref 18], [.ref 18, .ref 163], hp nS M)) (by with_unfolding_all rfl)).trans ?_
  exact eq_call2 (e := (.invokevirtual 20, 3, 0, 111, 98)) (as := [.ref 163, .ref 18]) (r := []) (n := 2) (m := 2) (by with_unfolding_all rfl) rfl (by decide) (by with_unfolding_all rfl) (by decide) (by with_unfolding_all rfl) ⟨fun _ => am_rec_ok (c := 12) (by with_unfolding_all rfl) (by decide +kernel), fun z => by simp at z⟩
set_option maxRecDepth 20000 in
theorem b_38_9v5 {d nS : Nat} {M : am_M} {Q : Option Value → am_H → Prop} : am_Wp (d + 1) 38 9 [.ref 113, .ref 18] [.ref 175] (hp nS M) Q = am_Wp d 111 0 [.ref 175, .ref 18] [] (hp nS M) (fun v h1 => am_Wp (d + 1) 38 13 [.ref 113, .ref 18] (am_ans v []) h1 Q) := by
  refine (eq_run 1 (q := (10, [.ref 113, .ref 18], [.ref 18, .ref 175], hp nS M)) (by with_unfolding_all rfl)).trans ?_
  exact eq_call2 (e := (.invokevirtual 20, 3, 0, 111, 98)) (as := [.ref 175, .ref 18]) (r := []) (n := 2) (m := 2) (by with_unfolding_all rfl) rfl (by decide) (by with_unfolding_all rfl) (by decide) (by with_unfolding_all rfl) ⟨fun _ => am_rec_ok (c := 12) (by with_unfolding_all rfl) (by decide +kernel), fun z => by simp at z⟩
set_option maxRecDepth 20000 in
theorem b_38_13 {d nS : Nat} {M : am_M} {Q : Option Value → am_H → Prop} : am_Wp (d + 1) 38 13 [.ref 113, .ref 18] [] (hp nS M) Q = am_Wp d 296 0 [.int 6, .int (((am_up M 113 1 (((M 113 1) + 1) - ((M 113 1) + 1) / 6 * 6)) 113 2) + 1)] [] (hp nS (am_up M 113 1 (((M 113 1) + 1) - ((M 113 1) + 1) / 6 * 6))) (fun v h1 => am_Wp (d + 1) 38 38 [.ref 113, .ref 18] (am_ans v [.ref 113]) h1 Q) := by
  refine (eq_run 14 (q := (35, [.ref 113, .ref 18], [.int (((am_up M 113 1 (((M 113 1) + 1) - ((M 113 1) + 1) / 6 * 6)) 113 2) + 1), .int 6, .ref 113], hp nS (am_up M 113 1 (((M 113 1) + 1) - ((M 113 1) + 1) / 6 * 6)))) (by with_unfolding_all rfl)).trans ?_
  exact eq_call2 (e := (.invokestatic 27, 3, 1, 296, 99)) (as := [.int 6, .int (((am_up M 113 1 (((M 113 1) + 1) - ((M 113 1) + 1) / 6 * 6)) 113 2) + 1)]) (r := [.ref 113]) (n := 2) (m := 2) (by with_unfolding_all rfl) rfl (by decide) (by with_unfolding_all rfl) (by decide) (by with_unfolding_all rfl) ⟨fun z => absurd z (by decide), fun z => by simp at z⟩
set_option maxRecDepth 20000 in
theorem b_38_38 {d nS : Nat} {s1 : Int32} {M : am_M} {Q : Option Value → am_H → Prop} : am_Wp d 38 38 [.ref 113, .ref 18] [.int s1, .ref 113] (hp nS M) Q = Q none (hp nS (am_up M 113 2 s1)) := by
  refine (eq_run 1 (q := (41, [.ref 113, .ref 18], [], hp nS (am_up M 113 2 s1))) (by with_unfolding_all rfl)).trans ?_
  exact eq_retV2 (e := (.return_, 1, 0, 0, 0)) (by with_unfolding_all rfl) rfl (by with_unfolding_all rfl)
-- LarkExchange$Past goesBack(LLarkExchange$World;)Z (39, (113, 18))
set_option maxRecDepth 20000 in
theorem b_39_0 {d nS : Nat} {M : am_M} {Q : Option Value → am_H → Prop} : am_Wp d 39 0 [.ref 113, .ref 18] [] (hp nS M) Q = if ¬ (M 113 2) = 0 then am_Wp d 39 9 [.ref 113, .ref 18] [] (hp nS M) Q else am_Wp d 39 7 [.ref 113, .ref 18] [] (hp nS M) Q := by
  refine (eq_run 2 (q := (4, [.ref 113, .ref 18], [.int (M 113 2)], hp nS M)) (by with_unfolding_all rfl)).trans ?_
  exact eq_if_ne (by with_unfolding_all rfl)
set_option maxRecDepth 20000 in
theorem b_39_7 {d nS : Nat} {M : am_M} {Q : Option Value → am_H → Prop} : am_Wp d 39 7 [.ref 113, .ref 18] [] (hp nS M) Q = Q (some (.int 0)) (hp nS M) := by
  refine (eq_run 1 (q := (8, [.ref 113, .ref 18], [.int 0], hp nS M)) (by with_unfolding_all rfl)).trans ?_
  exact eq_retI2 (e := (.ireturn, 1, 0, 0, 0)) (t := .boolean) (by with_unfolding_all rfl) rfl (by with_unfolding_all rfl) rfl
set_option maxRecDepth 20000 in
theorem b_39_9 {d nS : Nat} {M : am_M} {Q : Option Value → am_H → Prop} (h1 : vp_in ((am_up (am_up M 113 1 ((((M 113 1) + 6) - 1) - (((M 113 1) + 6) - 1) / 6 * 6)) 113 2 (((am_up M 113 1 ((((M 113 1) + 6) - 1) - (((M 113 1) + 6) - 1) / 6 * 6)) 113 2) - 1)) 113 1) 6) : am_Wp d 39 9 [.ref 113, .ref 18] [] (hp nS M) Q = if (am_up (am_up M 113 1 ((((M 113 1) + 6) - 1) - (((M 113 1) + 6) - 1) / 6 * 6)) 113 2 (((am_up M 113 1 ((((M 113 1) + 6) - 1) - (((M 113 1) + 6) - 1) / 6 * 6)) 113 2) - 1)) 113 1 = 0 then am_Wp d 39 45 [.ref 113, .ref 18] [.ref 115, .ref 18] (hp nS (am_up (am_up M 113 1 ((((M 113 1) + 6) - 1) - (((M 113 1) + 6) - 1) / 6 * 6)) 113 2 (((am_up M 113 1 ((((M 113 1) + 6) - 1) - (((M 113 1) + 6) - 1) / 6 * 6)) 113 2) - 1))) Q else if (am_up (am_up M 113 1 ((((M 113 1) + 6) - 1) - (((M 113 1) + 6) - 1) / 6 * 6)) 113 2 (((am_up M 113 1 ((((M 113 1) + 6) - 1) - (((M 113 1) + 6) - 1) / 6 * 6)) 113 2) - 1)) 113 1 = 1 then am_Wp d 39 45 [.ref 113, .ref 18] [.ref 127, .ref 18] (hp nS (am_up (am_up M 113 1 ((((M 113 1) + 6) - 1) - (((M 113 1) + 6) - 1) / 6 * 6)) 113 2 (((am_up M 113 1 ((((M 113 1) + 6) - 1) - (((M 113 1) + 6) - 1) / 6 * 6)) 113 2) - 1))) Q else if (am_up (am_up M 113 1 ((((M 113 1) + 6) - 1) - (((M 113 1) + 6) - 1) / 6 * 6)) 113 2 (((am_up M 113 1 ((((M 113 1) + 6) - 1) - (((M 113 1) + 6) - 1) / 6 * 6)) 113 2) - 1)) 113 1 = 2 then am_Wp d 39 45 [.ref 113, .ref 18] [.ref 139, .ref 18] (hp nS (am_up (am_up M 113 1 ((((M 113 1) + 6) - 1) - (((M 113 1) + 6) - 1) / 6 * 6)) 113 2 (((am_up M 113 1 ((((M 113 1) + 6) - 1) - (((M 113 1) + 6) - 1) / 6 * 6)) 113 2) - 1))) Q else if (am_up (am_up M 113 1 ((((M 113 1) + 6) - 1) - (((M 113 1) + 6) - 1) / 6 * 6)) 113 2 (((am_up M 113 1 ((((M 113 1) + 6) - 1) - (((M 113 1) + 6) - 1) / 6 * 6)) 113 2) - 1)) 113 1 = 3 then am_Wp d 39 45 [.ref 113, .ref 18] [.ref 151, .ref 18] (hp nS (am_up (am_up M 113 1 ((((M 113 1) + 6) - 1) - (((M 113 1) + 6) - 1) / 6 * 6)) 113 2 (((am_up M 113 1 ((((M 113 1) + 6) - 1) - (((M 113 1) + 6) - 1) / 6 * 6)) 113 2) - 1))) Q else if (am_up (am_up M 113 1 ((((M 113 1) + 6) - 1) - (((M 113 1) + 6) - 1) / 6 * 6)) 113 2 (((am_up M 113 1 ((((M 113 1) + 6) - 1) - (((M 113 1) + 6) - 1) / 6 * 6)) 113 2) - 1)) 113 1 = 4 then am_Wp d 39 45 [.ref 113, .ref 18] [.ref 163, .ref 18] (hp nS (am_up (am_up M 113 1 ((((M 113 1) + 6) - 1) - (((M 113 1) + 6) - 1) / 6 * 6)) 113 2 (((am_up M 113 1 ((((M 113 1) + 6) - 1) - (((M 113 1) + 6) - 1) / 6 * 6)) 113 2) - 1))) Q else am_Wp d 39 45 [.ref 113, .ref 18] [.ref 175, .ref 18] (hp nS (am_up (am_up M 113 1 ((((M 113 1) + 6) - 1) - (((M 113 1) + 6) - 1) / 6 * 6)) 113 2 (((am_up M 113 1 ((((M 113 1) + 6) - 1) - (((M 113 1) + 6) - 1) / 6 * 6)) 113 2) - 1))) Q := by
  refine (eq_run 21 (q := (44, [.ref 113, .ref 18], [.int ((am_up (am_up M 113 1 ((((M 113 1) + 6) - 1) - (((M 113 1) + 6) - 1) / 6 * 6)) 113 2 (((am_up M 113 1 ((((M 113 1) + 6) - 1) - (((M 113 1) + 6) - 1) / 6 * 6)) 113 2) - 1)) 113 1), .ref 114, .ref 18], hp nS (am_up (am_up M 113 1 ((((M 113 1) + 6) - 1) - (((M 113 1) + 6) - 1) / 6 * 6)) 113 2 (((am_up M 113 1 ((((M 113 1) + 6) - 1) - (((M 113 1) + 6) - 1) / 6 * 6)) 113 2) - 1)))) (by with_unfolding_all rfl)).trans ?_
  by_cases c0 : (am_up (am_up M 113 1 ((((M 113 1) + 6) - 1) - (((M 113 1) + 6) - 1) / 6 * 6)) 113 2 (((am_up M 113 1 ((((M 113 1) + 6) - 1) - (((M 113 1) + 6) - 1) / 6 * 6)) 113 2) - 1)) 113 1 = 0
  · rw [if_pos c0]; exact eq_aal (e := (.aaload, 1, 0, 0, 0)) (by with_unfolding_all rfl) rfl (n := 6) (by with_unfolding_all rfl) (by with_unfolding_all rfl) c0 (by decide)
  rw [if_neg c0]
  by_cases c1 : (am_up (am_up M 113 1 ((((M 113 1) + 6) - 1) - (((M 113 1) + 6) - 1) / 6 * 6)) 113 2 (((am_up M 113 1 ((((M 113 1) + 6) - 1) - (((M 113 1) + 6) - 1) / 6 * 6)) 113 2) - 1)) 113 1 = 1
  · rw [if_pos c1]; exact eq_aal (e := (.aaload, 1, 0, 0, 0)) (by with_unfolding_all rfl) rfl (n := 6) (by with_unfolding_all rfl) (by with_unfolding_all rfl) c1 (by decide)
  rw [if_neg c1]
  by_cases c2 : (am_up (am_up M 113 1 ((((M 113 1) + 6) - 1) - (((M 113 1) + 6) - 1) / 6 * 6)) 113 2 (((am_up M 113 1 ((((M 113 1) + 6) - 1) - (((M 113 1) + 6) - 1) / 6 * 6)) 113 2) - 1)) 113 1 = 2
  · rw [if_pos c2]; exact eq_aal (e := (.aaload, 1, 0, 0, 0)) (by with_unfolding_all rfl) rfl (n := 6) (by with_unfolding_all rfl) (by with_unfolding_all rfl) c2 (by decide)
  rw [if_neg c2]
  by_cases c3 : (am_up (am_up M 113 1 ((((M 113 1) + 6) - 1) - (((M 113 1) + 6) - 1) / 6 * 6)) 113 2 (((am_up M 113 1 ((((M 113 1) + 6) - 1) - (((M 113 1) + 6) - 1) / 6 * 6)) 113 2) - 1)) 113 1 = 3
  · rw [if_pos c3]; exact eq_aal (e := (.aaload, 1, 0, 0, 0)) (by with_unfolding_all rfl) rfl (n := 6) (by with_unfolding_all rfl) (by with_unfolding_all rfl) c3 (by decide)
  rw [if_neg c3]
  by_cases c4 : (am_up (am_up M 113 1 ((((M 113 1) + 6) - 1) - (((M 113 1) + 6) - 1) / 6 * 6)) 113 2 (((am_up M 113 1 ((((M 113 1) + 6) - 1) - (((M 113 1) + 6) - 1) / 6 * 6)) 113 2) - 1)) 113 1 = 4
  · rw [if_pos c4]; exact eq_aal (e := (.aaload, 1, 0, 0, 0)) (by with_unfolding_all rfl) rfl (n := 6) (by with_unfolding_all rfl) (by with_unfolding_all rfl) c4 (by decide)
  rw [if_neg c4]
  have c5 : (am_up (am_up M 113 1 ((((M 113 1) + 6) - 1) - (((M 113 1) + 6) - 1) / 6 * 6)) 113 2 (((am_up M 113 1 ((((M 113 1) + 6) - 1) - (((M 113 1) + 6) - 1) / 6 * 6)) 113 2) - 1)) 113 1 = 5 := in_last h1 c0 c1 c2 c3 c4
  exact eq_aal (e := (.aaload, 1, 0, 0, 0)) (by with_unfolding_all rfl) rfl (n := 6) (by with_unfolding_all rfl) (by with_unfolding_all rfl) c5 (by decide)
set_option maxRecDepth 20000 in
theorem b_39_45 {d nS : Nat} {M : am_M} {Q : Option Value → am_H → Prop} : am_Wp (d + 1) 39 45 [.ref 113, .ref 18] [.ref 115, .ref 18] (hp nS M) Q = am_Wp d 111 0 [.ref 18, .ref 115] [] (hp nS M) (fun v h1 => am_Wp (d + 1) 39 48 [.ref 113, .ref 18] (am_ans v []) h1 Q) := by
  exact eq_call2 (e := (.invokevirtual 20, 3, 0, 111, 98)) (as := [.ref 18, .ref 115]) (r := []) (n := 2) (m := 2) (by with_unfolding_all rfl) rfl (by decide) (by with_unfolding_all rfl) (by decide) (by with_unfolding_all rfl) ⟨fun _ => am_rec_ok (c := 12) (by with_unfolding_all rfl) (by decide +kernel), fun z => by simp at z⟩
set_option maxRecDepth 20000 in
theorem b_39_45v1 {d nS : Nat} {M : am_M} {Q : Option Value → am_H → Prop} : am_Wp (d + 1) 39 45 [.ref 113, .ref 18] [.ref 127, .ref 18] (hp nS M) Q = am_Wp d 111 0 [.ref 18, .ref 127] [] (hp nS M) (fun v h1 => am_Wp (d + 1) 39 48 [.ref 113, .ref 18] (am_ans v []) h1 Q) := by
  exact eq_call2 (e := (.invokevirtual 20, 3, 0, 111, 98)) (as := [.ref 18, .ref 127]) (r := []) (n := 2) (m := 2) (by with_unfolding_all rfl) rfl (by decide) (by with_unfolding_all rfl) (by decide) (by with_unfolding_all rfl) ⟨fun _ => am_rec_ok (c := 12) (by with_unfolding_all rfl) (by decide +kernel), fun z => by simp at z⟩
set_option maxRecDepth 20000 in
theorem b_39_45v2 {d nS : Nat} {M : am_M} {Q : Option Value → am_H → Prop} : am_Wp (d + 1) 39 45 [.ref 113, .ref 18] [.ref 139, .ref 18] (hp nS M) Q = am_Wp d 111 0 [.ref 18, .ref 139] [] (hp nS M) (fun v h1 => am_Wp (d + 1) 39 48 [.ref 113, .ref 18] (am_ans v []) h1 Q) := by
  exact eq_call2 (e := (.invokevirtual 20, 3, 0, 111, 98)) (as := [.ref 18, .ref 139]) (r := []) (n := 2) (m := 2) (by with_unfolding_all rfl) rfl (by decide) (by with_unfolding_all rfl) (by decide) (by with_unfolding_all rfl) ⟨fun _ => am_rec_ok (c := 12) (by with_unfolding_all rfl) (by decide +kernel), fun z => by simp at z⟩
set_option maxRecDepth 20000 in
theorem b_39_45v3 {d nS : Nat} {M : am_M} {Q : Option Value → am_H → Prop} : am_Wp (d + 1) 39 45 [.ref 113, .ref 18] [.ref 151, .ref 18] (hp nS M) Q = am_Wp d 111 0 [.ref 18, .ref 151] [] (hp nS M) (fun v h1 => am_Wp (d + 1) 39 48 [.ref 113, .ref 18] (am_ans v []) h1 Q) := by
  exact eq_call2 (e := (.invokevirtual 20, 3, 0, 111, 98)) (as := [.ref 18, .ref 151]) (r := []) (n := 2) (m := 2) (by with_unfolding_all rfl) rfl (by decide) (by with_unfolding_all rfl) (by decide) (by with_unfolding_all rfl) ⟨fun _ => am_rec_ok (c := 12) (by with_unfolding_all rfl) (by decide +kernel), fun z => by simp at z⟩
set_option maxRecDepth 20000 in
theorem b_39_45v4 {d nS : Nat} {M : am_M} {Q : Option Value → am_H → Prop} : am_Wp (d + 1) 39 45 [.ref 113, .ref 18] [.ref 163, .ref 18] (hp nS M) Q = am_Wp d 111 0 [.ref 18, .ref 163] [] (hp nS M) (fun v h1 => am_Wp (d + 1) 39 48 [.ref 113, .ref 18] (am_ans v []) h1 Q) := by
  exact eq_call2 (e := (.invokevirtual 20, 3, 0, 111, 98)) (as := [.ref 18, .ref 163]) (r := []) (n := 2) (m := 2) (by with_unfolding_all rfl) rfl (by decide) (by with_unfolding_all rfl) (by decide) (by with_unfolding_all rfl) ⟨fun _ => am_rec_ok (c := 12) (by with_unfolding_all rfl) (by decide +kernel), fun z => by simp at z⟩
set_option maxRecDepth 20000 in
theorem b_39_45v5 {d nS : Nat} {M : am_M} {Q : Option Value → am_H → Prop} : am_Wp (d + 1) 39 45 [.ref 113, .ref 18] [.ref 175, .ref 18] (hp nS M) Q = am_Wp d 111 0 [.ref 18, .ref 175] [] (hp nS M) (fun v h1 => am_Wp (d + 1) 39 48 [.ref 113, .ref 18] (am_ans v []) h1 Q) := by
  exact eq_call2 (e := (.invokevirtual 20, 3, 0, 111, 98)) (as := [.ref 18, .ref 175]) (r := []) (n := 2) (m := 2) (by with_unfolding_all rfl) rfl (by decide) (by with_unfolding_all rfl) (by decide) (by with_unfolding_all rfl) ⟨fun _ => am_rec_ok (c := 12) (by with_unfolding_all rfl) (by decide +kernel), fun z => by simp at z⟩
set_option maxRecDepth 20000 in
theorem b_39_48 {d nS : Nat} {M : am_M} {Q : Option Value → am_H → Prop} : am_Wp d 39 48 [.ref 113, .ref 18] [] (hp nS M) Q = Q (some (.int 1)) (hp nS M) := by
  refine (eq_run 1 (q := (49, [.ref 113, .ref 18], [.int 1], hp nS M)) (by with_unfolding_all rfl)).trans ?_
  exact eq_retI2 (e := (.ireturn, 1, 0, 0, 0)) (t := .boolean) (by with_unfolding_all rfl) rfl (by with_unfolding_all rfl) rfl
-- LarkExchange$Reader puts(I)V (41, (187, None))
set_option maxRecDepth 20000 in
theorem b_41_0 {d nS : Nat} {x1 : Int32} {M : am_M} {Q : Option Value → am_H → Prop} : am_Wp d 41 0 [.ref 187, .int x1, .retAddr 0] [] (hp nS M) Q = am_Wp d 41 3 [.ref 187, .int x1, .int 24] [] (hp nS M) Q := by
  exact eq_run 2 (q := (3, [.ref 187, .int x1, .int 24], [], hp nS M)) (by with_unfolding_all rfl)
set_option maxRecDepth 20000 in
theorem b_41_3 {d nS : Nat} {x1 x2 : Int32} {M : am_M} {Q : Option Value → am_H → Prop} : am_Wp d 41 3 [.ref 187, .int x1, .int x2] [] (hp nS M) Q = if x2 < 0 then am_Wp d 41 49 [.ref 187, .int x1, .int x2] [] (hp nS M) Q else am_Wp d 41 7 [.ref 187, .int x1, .int x2] [] (hp nS M) Q := by
  refine (eq_run 1 (q := (4, [.ref 187, .int x1, .int x2], [.int x2], hp nS M)) (by with_unfolding_all rfl)).trans ?_
  exact eq_if_lt (by with_unfolding_all rfl)
set_option maxRecDepth 20000 in
theorem b_41_7 {d nS : Nat} {x1 x2 : Int32} {M : am_M} {Q : Option Value → am_H → Prop} : am_Wp d 41 7 [.ref 187, .int x1, .int x2] [] (hp nS M) Q = if 400 ≤ (M 187 0) then am_Wp d 41 49 [.ref 187, .int x1, .int x2] [] (hp nS M) Q else am_Wp d 41 17 [.ref 187, .int x1, .int x2] [] (hp nS M) Q := by
  refine (eq_run 3 (q := (14, [.ref 187, .int x1, .int x2], [.int 400, .int (M 187 0)], hp nS M)) (by with_unfolding_all rfl)).trans ?_
  exact eq_cmp_ge (by with_unfolding_all rfl)
set_option maxRecDepth 20000 in
theorem b_41_17 {d nS : Nat} {x1 x2 : Int32} {M : am_M} {Q : Option Value → am_H → Prop} (h1 : vp_in (M 187 0) 400) : am_Wp d 41 17 [.ref 187, .int x1, .int x2] [] (hp nS M) Q = am_Wp d 41 3 [.ref 187, .int x1, .int (x2 + (-8))] [] (hp nS (am_up (am_up M 198 (M 187 0).toNatClampNeg (((x1.toUInt32 >>> (x2.toUInt32 &&& Int32.toUInt32 31)).toInt32) &&& 255)) 187 0 (((am_up M 198 (M 187 0).toNatClampNeg (((x1.toUInt32 >>> (x2.toUInt32 &&& Int32.toUInt32 31)).toInt32) &&& 255)) 187 0) + 1))) Q := by
  refine (eq_run 9 (q := (32, [.ref 187, .int x1, .int x2], [.int (((x1.toUInt32 >>> (x2.toUInt32 &&& Int32.toUInt32 31)).toInt32) &&& 255), .int (M 187 0), .ref 198], hp nS M)) (by with_unfolding_all rfl)).trans ?_
  refine (eq_ast (e := (.iastore, 1, 0, 0, 0)) (by with_unfolding_all rfl) rfl (n := 400) (by with_unfolding_all rfl) (by decide) h1).trans ?_
  exact eq_run 8 (q := (3, [.ref 187, .int x1, .int (x2 + (-8))], [], hp nS (am_up (am_up M 198 (M 187 0).toNatClampNeg (((x1.toUInt32 >>> (x2.toUInt32 &&& Int32.toUInt32 31)).toInt32) &&& 255)) 187 0 (((am_up M 198 (M 187 0).toNatClampNeg (((x1.toUInt32 >>> (x2.toUInt32 &&& Int32.toUInt32 31)).toInt32) &&& 255)) 187 0) + 1)))) (by with_unfolding_all rfl)
set_option maxRecDepth 20000 in
theorem b_41_49 {d nS : Nat} {x1 x2 : Int32} {M : am_M} {Q : Option Value → am_H → Prop} : am_Wp d 41 49 [.ref 187, .int x1, .int x2] [] (hp nS M) Q = Q none (hp nS M) := by
  exact eq_retV2 (e := (.return_, 1, 0, 0, 0)) (by with_unfolding_all rfl) rfl (by with_unfolding_all rfl)
-- LarkExchange$Reader reads(ILLarkExchange$World;)Z (42, (187, None, 18))
set_option maxRecDepth 20000 in
theorem b_42_0 {d nS : Nat} {x1 : Int32} {M : am_M} {Q : Option Value → am_H → Prop} : am_Wp (d + 1) 42 0 [.ref 187, .int x1, .ref 18, .retAddr 0, .retAddr 0] [] (hp nS M) Q = am_Wp d 43 0 [.ref 187, .retAddr 0, .retAddr 0] [] (hp nS M) (fun v h1 => am_Wp (d + 1) 42 4 [.ref 187, .int x1, .ref 18, .retAddr 0, .retAddr 0] (am_ans v []) h1 Q) := by
  refine (eq_run 1 (q := (1, [.ref 187, .int x1, .ref 18, .retAddr 0, .retAddr 0], [.ref 187], hp nS M)) (by with_unfolding_all rfl)).trans ?_
  exact eq_call2 (e := (.invokevirtual 45, 3, 0, 43, 103)) (as := [.ref 187]) (r := []) (n := 1) (m := 3) (by with_unfolding_all rfl) rfl (by decide) (by with_unfolding_all rfl) (by decide) (by with_unfolding_all rfl) ⟨fun _ => am_rec_ok (c := 8) (by with_unfolding_all rfl) (by decide +kernel), fun z => by simp at z⟩
set_option maxRecDepth 20000 in
theorem b_42_4 {d nS : Nat} {x1 : Int32} {M : am_M} {Q : Option Value → am_H → Prop} : am_Wp (d + 1) 42 4 [.ref 187, .int x1, .ref 18, .retAddr 0, .retAddr 0] [] (hp nS M) Q = am_Wp d 26 0 [.ref 188] [] (hp nS (am_up (am_up (am_up (am_up M 187 0 0) 187 10 0) 187 1 0) 187 2 (-1))) (fun v h1 => am_Wp (d + 1) 42 31 [.ref 187, .int x1, .ref 18, .retAddr 0, .retAddr 0] (am_ans v []) h1 Q) := by
  refine (eq_run 14 (q := (28, [.ref 187, .int x1, .ref 18, .retAddr 0, .retAddr 0], [.ref 188], hp nS (am_up (am_up (am_up (am_up M 187 0 0) 187 10 0) 187 1 0) 187 2 (-1)))) (by with_unfolding_all rfl)).trans ?_
  exact eq_call2 (e := (.invokevirtual 54, 3, 0, 26, 104)) (as := [.ref 188]) (r := []) (n := 1) (m := 1) (by with_unfolding_all rfl) rfl (by decide) (by with_unfolding_all rfl) (by decide) (by with_unfolding_all rfl) ⟨fun _ => am_rec_ok (c := 5) (by with_unfolding_all rfl) (by decide +kernel), fun z => by simp at z⟩
set_option maxRecDepth 20000 in
theorem b_42_31 {d nS : Nat} {x1 : Int32} {M : am_M} {Q : Option Value → am_H → Prop} : am_Wp d 42 31 [.ref 187, .int x1, .ref 18, .retAddr 0, .retAddr 0] [] (hp nS M) Q = if x1 < 0 then am_Wp d 42 48 [.ref 187, .int x1, .ref 18, .retAddr 0, .retAddr 0] [] (hp nS (am_up M 196 1 0)) Q else am_Wp d 42 43 [.ref 187, .int x1, .ref 18, .retAddr 0, .retAddr 0] [] (hp nS (am_up M 196 1 0)) Q := by
  refine (eq_run 5 (q := (40, [.ref 187, .int x1, .ref 18, .retAddr 0, .retAddr 0], [.int x1], hp nS (am_up M 196 1 0))) (by with_unfolding_all rfl)).trans ?_
  exact eq_if_lt (by with_unfolding_all rfl)
set_option maxRecDepth 20000 in
theorem b_42_43 {d nS : Nat} {x1 : Int32} {M : am_M} {Q : Option Value → am_H → Prop} : am_Wp d 42 43 [.ref 187, .int x1, .ref 18, .retAddr 0, .retAddr 0] [] (hp nS M) Q = if x1 < 4 then am_Wp d 42 50 [.ref 187, .int x1, .ref 18, .retAddr 0, .retAddr 0] [] (hp nS M) Q else am_Wp d 42 48 [.ref 187, .int x1, .ref 18, .retAddr 0, .retAddr 0] [] (hp nS M) Q := by
  refine (eq_run 2 (q := (45, [.ref 187, .int x1, .ref 18, .retAddr 0, .retAddr 0], [.int 4, .int x1], hp nS M)) (by with_unfolding_all rfl)).trans ?_
  exact eq_cmp_lt (by with_unfolding_all rfl)
set_option maxRecDepth 20000 in
theorem b_42_48 {d nS : Nat} {x1 : Int32} {M : am_M} {Q : Option Value → am_H → Prop} : am_Wp d 42 48 [.ref 187, .int x1, .ref 18, .retAddr 0, .retAddr 0] [] (hp nS M) Q = Q (some (.int 0)) (hp nS M) := by
  refine (eq_run 1 (q := (49, [.ref 187, .int x1, .ref 18, .retAddr 0, .retAddr 0], [.int 0], hp nS M)) (by with_unfolding_all rfl)).trans ?_
  exact eq_retI2 (e := (.ireturn, 1, 0, 0, 0)) (t := .boolean) (by with_unfolding_all rfl) rfl (by with_unfolding_all rfl) rfl
set_option maxRecDepth 20000 in
theorem b_42_50 {d nS : Nat} {x1 : Int32} {M : am_M} {Q : Option Value → am_H → Prop} : am_Wp d 42 50 [.ref 187, .int x1, .ref 18, .retAddr 0, .retAddr 0] [] (hp nS M) Q = am_Wp d 42 52 [.ref 187, .int x1, .ref 18, .int 0, .retAddr 0] [] (hp nS M) Q := by
  exact eq_run 2 (q := (52, [.ref 187, .int x1, .ref 18, .int 0, .retAddr 0], [], hp nS M)) (by with_unfolding_all rfl)
set_option maxRecDepth 20000 in
theorem b_42_52 {d nS : Nat} {x1 x3 : Int32} {zx4 : Value} {M : am_M} {Q : Option Value → am_H → Prop} : am_Wp d 42 52 [.ref 187, .int x1, .ref 18, .int x3, zx4] [] (hp nS M) Q = if 16 < x3 then am_Wp d 42 159 [.ref 187, .int x1, .ref 18, .int x3, zx4] [] (hp nS M) Q else am_Wp d 42 58 [.ref 187, .int x1, .ref 18, .int x3, zx4] [] (hp nS M) Q := by
  refine (eq_run 2 (q := (55, [.ref 187, .int x1, .ref 18, .int x3, zx4], [.int 16, .int x3], hp nS M)) (by with_unfolding_all rfl)).trans ?_
  exact eq_cmp_gt (by with_unfolding_all rfl)
set_option maxRecDepth 20000 in
theorem b_42_58 {d nS : Nat} {x1 x3 : Int32} {zx4 : Value} {M : am_M} {Q : Option Value → am_H → Prop} : am_Wp (d + 1) 42 58 [.ref 187, .int x1, .ref 18, .int x3, zx4] [] (hp nS M) Q = am_Wp d 51 0 [.ref 187] [] (hp nS M) (fun v h1 => am_Wp (d + 1) 42 62 [.ref 187, .int x1, .ref 18, .int x3, zx4] (am_ans v []) h1 Q) := by
  refine (eq_run 1 (q := (59, [.ref 187, .int x1, .ref 18, .int x3, zx4], [.ref 187], hp nS M)) (by with_unfolding_all rfl)).trans ?_
  exact eq_call2 (e := (.invokevirtual 60, 3, 0, 51, 105)) (as := [.ref 187]) (r := []) (n := 1) (m := 1) (by with_unfolding_all rfl) rfl (by decide) (by with_unfolding_all rfl) (by decide) (by with_unfolding_all rfl) ⟨fun _ => am_rec_ok (c := 8) (by with_unfolding_all rfl) (by decide +kernel), fun z => by simp at z⟩
set_option maxRecDepth 20000 in
theorem b_42_62 {d nS : Nat} {x1 x3 s0 : Int32} {zx4 : Value} {M : am_M} {Q : Option Value → am_H → Prop} : am_Wp d 42 62 [.ref 187, .int x1, .ref 18, .int x3, zx4] [.int s0] (hp nS M) Q = if s0 = 37 then am_Wp d 42 159 [.ref 187, .int x1, .ref 18, .int x3, zx4] [] (hp nS M) Q else am_Wp d 42 67 [.ref 187, .int x1, .ref 18, .int x3, zx4] [] (hp nS M) Q := by
  refine (eq_run 1 (q := (64, [.ref 187, .int x1, .ref 18, .int x3, zx4], [.int 37, .int s0], hp nS M)) (by with_unfolding_all rfl)).trans ?_
  exact eq_cmp_eq (by with_unfolding_all rfl)
set_option maxRecDepth 20000 in
theorem b_42_67 {d nS : Nat} {x1 x3 : Int32} {zx4 : Value} {M : am_M} {Q : Option Value → am_H → Prop} : am_Wp (d + 1) 42 67 [.ref 187, .int x1, .ref 18, .int x3, zx4] [] (hp nS M) Q = am_Wp d 52 0 [.ref 187, .int x1, .retAddr 0] [] (hp nS M) (fun v h1 => am_Wp (d + 1) 42 72 [.ref 187, .int x1, .ref 18, .int x3, zx4] (am_ans v []) h1 Q) := by
  refine (eq_run 2 (q := (69, [.ref 187, .int x1, .ref 18, .int x3, zx4], [.int x1, .ref 187], hp nS M)) (by with_unfolding_all rfl)).trans ?_
  exact eq_call2 (e := (.invokevirtual 64, 3, 0, 52, 106)) (as := [.ref 187, .int x1]) (r := []) (n := 2) (m := 3) (by with_unfolding_all rfl) rfl (by decide) (by with_unfolding_all rfl) (by decide) (by with_unfolding_all rfl) ⟨fun _ => am_rec_ok (c := 8) (by with_unfolding_all rfl) (by decide +kernel), fun z => by simp at z⟩
set_option maxRecDepth 20000 in
theorem b_42_72 {d nS : Nat} {x1 x3 s0 : Int32} {zx4 : Value} {M : am_M} {Q : Option Value → am_H → Prop} : am_Wp d 42 72 [.ref 187, .int x1, .ref 18, .int x3, zx4] [.int s0] (hp nS M) Q = if ¬ s0 = 0 then am_Wp d 42 81 [.ref 187, .int x1, .ref 18, .int x3, zx4] [] (hp nS M) Q else am_Wp d 42 75 [.ref 187, .int x1, .ref 18, .int x3, zx4] [] (hp nS M) Q := by
  exact eq_if_ne (by with_unfolding_all rfl)
set_option maxRecDepth 20000 in
theorem b_42_75 {d nS : Nat} {x1 x3 : Int32} {zx4 : Value} {M : am_M} {Q : Option Value → am_H → Prop} : am_Wp (d + 1) 42 75 [.ref 187, .int x1, .ref 18, .int x3, zx4] [] (hp nS M) Q = am_Wp d 53 0 [.ref 187, .int 1] [] (hp nS M) (fun v h1 => am_Wp (d + 1) 42 80 [.ref 187, .int x1, .ref 18, .int x3, zx4] (am_ans v []) h1 Q) := by
  refine (eq_run 2 (q := (77, [.ref 187, .int x1, .ref 18, .int x3, zx4], [.int 1, .ref 187], hp nS M)) (by with_unfolding_all rfl)).trans ?_
  exact eq_call2 (e := (.invokevirtual 68, 3, 0, 53, 107)) (as := [.ref 187, .int 1]) (r := []) (n := 2) (m := 2) (by with_unfolding_all rfl) rfl (by decide) (by with_unfolding_all rfl) (by decide) (by with_unfolding_all rfl) ⟨fun _ => am_rec_ok (c := 8) (by with_unfolding_all rfl) (by decide +kernel), fun z => by simp at z⟩
set_option maxRecDepth 20000 in
theorem b_42_80 {d nS : Nat} {x1 x3 s0 : Int32} {zx4 : Value} {M : am_M} {Q : Option Value → am_H → Prop} (h1 : am_rok .boolean s0 = true) : am_Wp d 42 80 [.ref 187, .int x1, .ref 18, .int x3, zx4] [.int s0] (hp nS M) Q = Q (some (.int s0)) (hp nS M) := by
  exact eq_retI2 (e := (.ireturn, 1, 0, 0, 0)) (t := .boolean) (by with_unfolding_all rfl) rfl (by with_unfolding_all rfl) h1
set_option maxRecDepth 20000 in
theorem b_42_81 {d nS : Nat} {x1 x3 : Int32} {zx4 : Value} {M : am_M} {Q : Option Value → am_H → Prop} : am_Wp d 42 81 [.ref 187, .int x1, .ref 18, .int x3, zx4] [] (hp nS M) Q = if ¬ x3 = 16 then am_Wp d 42 93 [.ref 187, .int x1, .ref 18, .int x3, zx4] [] (hp nS M) Q else am_Wp d 42 87 [.ref 187, .int x1, .ref 18, .int x3, zx4] [] (hp nS M) Q := by
  refine (eq_run 2 (q := (84, [.ref 187, .int x1, .ref 18, .int x3, zx4], [.int 16, .int x3], hp nS M)) (by with_unfolding_all rfl)).trans ?_
  exact eq_cmp_ne (by with_unfolding_all rfl)
set_option maxRecDepth 20000 in
theorem b_42_87 {d nS : Nat} {x1 x3 : Int32} {zx4 : Value} {M : am_M} {Q : Option Value → am_H → Prop} : am_Wp (d + 1) 42 87 [.ref 187, .int x1, .ref 18, .int x3, zx4] [] (hp nS M) Q = am_Wp d 53 0 [.ref 187, .int 3] [] (hp nS M) (fun v h1 => am_Wp (d + 1) 42 92 [.ref 187, .int x1, .ref 18, .int x3, zx4] (am_ans v []) h1 Q) := by
  refine (eq_run 2 (q := (89, [.ref 187, .int x1, .ref 18, .int x3, zx4], [.int 3, .ref 187], hp nS M)) (by with_unfolding_all rfl)).trans ?_
  exact eq_call2 (e := (.invokevirtual 68, 3, 0, 53, 107)) (as := [.ref 187, .int 3]) (r := []) (n := 2) (m := 2) (by with_unfolding_all rfl) rfl (by decide) (by with_unfolding_all rfl) (by decide) (by with_unfolding_all rfl) ⟨fun _ => am_rec_ok (c := 8) (by with_unfolding_all rfl) (by decide +kernel), fun z => by simp at z⟩
set_option maxRecDepth 20000 in
theorem b_42_92 {d nS : Nat} {x1 x3 s0 : Int32} {zx4 : Value} {M : am_M} {Q : Option Value → am_H → Prop} (h1 : am_rok .boolean s0 = true) : am_Wp d 42 92 [.ref 187, .int x1, .ref 18, .int x3, zx4] [.int s0] (hp nS M) Q = Q (some (.int s0)) (hp nS M) := by
  exact eq_retI2 (e := (.ireturn, 1, 0, 0, 0)) (t := .boolean) (by with_unfolding_all rfl) rfl (by with_unfolding_all rfl) h1
set_option maxRecDepth 20000 in
theorem b_42_93 {d nS : Nat} {x1 x3 : Int32} {zx4 : Value} {M : am_M} {Q : Option Value → am_H → Prop} : am_Wp d 42 93 [.ref 187, .int x1, .ref 18, .int x3, zx4] [] (hp nS M) Q = if ¬ x1 = 0 then am_Wp d 42 104 [.ref 187, .int x1, .ref 18, .int x3, zx4] [] (hp nS M) Q else am_Wp d 42 97 [.ref 187, .int x1, .ref 18, .int x3, zx4] [] (hp nS M) Q := by
  refine (eq_run 1 (q := (94, [.ref 187, .int x1, .ref 18, .int x3, zx4], [.int x1], hp nS M)) (by with_unfolding_all rfl)).trans ?_
  exact eq_if_ne (by with_unfolding_all rfl)
set_option maxRecDepth 20000 in
theorem b_42_97 {d nS : Nat} {x1 x3 : Int32} {zx4 : Value} {M : am_M} {Q : Option Value → am_H → Prop} : am_Wp (d + 1) 42 97 [.ref 187, .int x1, .ref 18, .int x3, zx4] [] (hp nS M) Q = am_Wp d 54 0 [.ref 187] [] (hp nS M) (fun v h1 => am_Wp (d + 1) 42 101 [.ref 187, .int x1, .ref 18, .int x3, zx4] (am_ans v []) h1 Q) := by
  refine (eq_run 1 (q := (98, [.ref 187, .int x1, .ref 18, .int x3, zx4], [.ref 187], hp nS M)) (by with_unfolding_all rfl)).trans ?_
  exact eq_call2 (e := (.invokevirtual 71, 3, 0, 54, 108)) (as := [.ref 187]) (r := []) (n := 1) (m := 1) (by with_unfolding_all rfl) rfl (by decide) (by with_unfolding_all rfl) (by decide) (by with_unfolding_all rfl) ⟨fun _ => am_rec_ok (c := 8) (by with_unfolding_all rfl) (by decide +kernel), fun z => by simp at z⟩
set_option maxRecDepth 20000 in
theorem b_42_101 {d nS : Nat} {x1 x3 s0 : Int32} {zx4 : Value} {M : am_M} {Q : Option Value → am_H → Prop} : am_Wp d 42 101 [.ref 187, .int x1, .ref 18, .int x3, zx4] [.int s0] (hp nS M) Q = am_Wp d 42 135 [.ref 187, .int x1, .ref 18, .int x3, zx4] [.int s0] (hp nS M) Q := by
  exact eq_run 1 (q := (135, [.ref 187, .int x1, .ref 18, .int x3, zx4], [.int s0], hp nS M)) (by with_unfolding_all rfl)
set_option maxRecDepth 20000 in
theorem b_42_104 {d nS : Nat} {x1 x3 : Int32} {zx4 : Value} {M : am_M} {Q : Option Value → am_H → Prop} : am_Wp d 42 104 [.ref 187, .int x1, .ref 18, .int x3, zx4] [] (hp nS M) Q = if ¬ x1 = 1 then am_Wp d 42 117 [.ref 187, .int x1, .ref 18, .int x3, zx4] [] (hp nS M) Q else am_Wp d 42 109 [.ref 187, .int x1, .ref 18, .int x3, zx4] [] (hp nS M) Q := by
  refine (eq_run 2 (q := (106, [.ref 187, .int x1, .ref 18, .int x3, zx4], [.int 1, .int x1], hp nS M)) (by with_unfolding_all rfl)).trans ?_
  exact eq_cmp_ne (by with_unfolding_all rfl)
set_option maxRecDepth 20000 in
theorem b_42_109 {d nS : Nat} {x1 x3 : Int32} {zx4 : Value} {M : am_M} {Q : Option Value → am_H → Prop} : am_Wp (d + 1) 42 109 [.ref 187, .int x1, .ref 18, .int x3, zx4] [] (hp nS M) Q = am_Wp d 60 0 [.ref 187, .ref 18, .retAddr 0, .retAddr 0, .retAddr 0, .retAddr 0] [] (hp nS M) (fun v h1 => am_Wp (d + 1) 42 114 [.ref 187, .int x1, .ref 18, .int x3, zx4] (am_ans v []) h1 Q) := by
  refine (eq_run 2 (q := (111, [.ref 187, .int x1, .ref 18, .int x3, zx4], [.ref 18, .ref 187], hp nS M)) (by with_unfolding_all rfl)).trans ?_
  exact eq_call2 (e := (.invokevirtual 75, 3, 0, 60, 109)) (as := [.ref 187, .ref 18]) (r := []) (n := 2) (m := 6) (by with_unfolding_all rfl) rfl (by decide) (by with_unfolding_all rfl) (by decide) (by with_unfolding_all rfl) ⟨fun _ => am_rec_ok (c := 8) (by with_unfolding_all rfl) (by decide +kernel), fun z => by simp at z⟩
set_option maxRecDepth 20000 in
theorem b_42_114 {d nS : Nat} {x1 x3 s0 : Int32} {zx4 : Value} {M : am_M} {Q : Option Value → am_H → Prop} : am_Wp d 42 114 [.ref 187, .int x1, .ref 18, .int x3, zx4] [.int s0] (hp nS M) Q = am_Wp d 42 135 [.ref 187, .int x1, .ref 18, .int x3, zx4] [.int s0] (hp nS M) Q := by
  exact eq_run 1 (q := (135, [.ref 187, .int x1, .ref 18, .int x3, zx4], [.int s0], hp nS M)) (by with_unfolding_all rfl)
set_option maxRecDepth 20000 in
theorem b_42_117 {d nS : Nat} {x1 x3 : Int32} {zx4 : Value} {M : am_M} {Q : Option Value → am_H → Prop} : am_Wp d 42 117 [.ref 187, .int x1, .ref 18, .int x3, zx4] [] (hp nS M) Q = if ¬ x1 = 2 then am_Wp d 42 130 [.ref 187, .int x1, .ref 18, .int x3, zx4] [] (hp nS M) Q else am_Wp d 42 122 [.ref 187, .int x1, .ref 18, .int x3, zx4] [] (hp nS M) Q := by
  refine (eq_run 2 (q := (119, [.ref 187, .int x1, .ref 18, .int x3, zx4], [.int 2, .int x1], hp nS M)) (by with_unfolding_all rfl)).trans ?_
  exact eq_cmp_ne (by with_unfolding_all rfl)
set_option maxRecDepth 20000 in
theorem b_42_122 {d nS : Nat} {x1 x3 : Int32} {zx4 : Value} {M : am_M} {Q : Option Value → am_H → Prop} : am_Wp (d + 1) 42 122 [.ref 187, .int x1, .ref 18, .int x3, zx4] [] (hp nS M) Q = am_Wp d 62 0 [.ref 187, .ref 18, .retAddr 0, .retAddr 0, .retAddr 0, .retAddr 0, .retAddr 0] [] (hp nS M) (fun v h1 => am_Wp (d + 1) 42 127 [.ref 187, .int x1, .ref 18, .int x3, zx4] (am_ans v []) h1 Q) := by
  refine (eq_run 2 (q := (124, [.ref 187, .int x1, .ref 18, .int x3, zx4], [.ref 18, .ref 187], hp nS M)) (by with_unfolding_all rfl)).trans ?_
  exact eq_call2 (e := (.invokevirtual 79, 3, 0, 62, 110)) (as := [.ref 187, .ref 18]) (r := []) (n := 2) (m := 7) (by with_unfolding_all rfl) rfl (by decide) (by with_unfolding_all rfl) (by decide) (by with_unfolding_all rfl) ⟨fun _ => am_rec_ok (c := 8) (by with_unfolding_all rfl) (by decide +kernel), fun z => by simp at z⟩
set_option maxRecDepth 20000 in
theorem b_42_127 {d nS : Nat} {x1 x3 s0 : Int32} {zx4 : Value} {M : am_M} {Q : Option Value → am_H → Prop} : am_Wp d 42 127 [.ref 187, .int x1, .ref 18, .int x3, zx4] [.int s0] (hp nS M) Q = am_Wp d 42 135 [.ref 187, .int x1, .ref 18, .int x3, zx4] [.int s0] (hp nS M) Q := by
  exact eq_run 1 (q := (135, [.ref 187, .int x1, .ref 18, .int x3, zx4], [.int s0], hp nS M)) (by with_unfolding_all rfl)
set_option maxRecDepth 20000 in
theorem b_42_130 {d nS : Nat} {x1 x3 : Int32} {zx4 : Value} {M : am_M} {Q : Option Value → am_H → Prop} : am_Wp (d + 1) 42 130 [.ref 187, .int x1, .ref 18, .int x3, zx4] [] (hp nS M) Q = am_Wp d 63 0 [.ref 187, .ref 18, .retAddr 0, .retAddr 0] [] (hp nS M) (fun v h1 => am_Wp (d + 1) 42 135 [.ref 187, .int x1, .ref 18, .int x3, zx4] (am_ans v []) h1 Q) := by
  refine (eq_run 2 (q := (132, [.ref 187, .int x1, .ref 18, .int x3, zx4], [.ref 18, .ref 187], hp nS M)) (by with_unfolding_all rfl)).trans ?_
  exact eq_call2 (e := (.invokevirtual 82, 3, 0, 63, 111)) (as := [.ref 187, .ref 18]) (r := []) (n := 2) (m := 4) (by with_unfolding_all rfl) rfl (by decide) (by with_unfolding_all rfl) (by decide) (by with_unfolding_all rfl) ⟨fun _ => am_rec_ok (c := 8) (by with_unfolding_all rfl) (by decide +kernel), fun z => by simp at z⟩
set_option maxRecDepth 20000 in
theorem b_42_135 {d nS : Nat} {x1 x3 s0 : Int32} {zx4 : Value} {M : am_M} {Q : Option Value → am_H → Prop} : am_Wp d 42 135 [.ref 187, .int x1, .ref 18, .int x3, zx4] [.int s0] (hp nS M) Q = if s0 = 0 then am_Wp d 42 151 [.ref 187, .int x1, .ref 18, .int x3, .int s0] [] (hp nS M) Q else am_Wp d 42 142 [.ref 187, .int x1, .ref 18, .int x3, .int s0] [] (hp nS M) Q := by
  refine (eq_run 2 (q := (139, [.ref 187, .int x1, .ref 18, .int x3, .int s0], [.int s0], hp nS M)) (by with_unfolding_all rfl)).trans ?_
  exact eq_if_eq (by with_unfolding_all rfl)
set_option maxRecDepth 20000 in
theorem b_42_142 {d nS : Nat} {x1 x3 x4 : Int32} {M : am_M} {Q : Option Value → am_H → Prop} : am_Wp (d + 1) 42 142 [.ref 187, .int x1, .ref 18, .int x3, .int x4] [] (hp nS M) Q = am_Wp d 59 0 [.ref 187, .int 26] [] (hp nS M) (fun v h1 => am_Wp (d + 1) 42 148 [.ref 187, .int x1, .ref 18, .int x3, .int x4] (am_ans v []) h1 Q) := by
  refine (eq_run 2 (q := (145, [.ref 187, .int x1, .ref 18, .int x3, .int x4], [.int 26, .ref 187], hp nS M)) (by with_unfolding_all rfl)).trans ?_
  exact eq_call2 (e := (.invokevirtual 85, 3, 0, 59, 112)) (as := [.ref 187, .int 26]) (r := []) (n := 2) (m := 2) (by with_unfolding_all rfl) rfl (by decide) (by with_unfolding_all rfl) (by decide) (by with_unfolding_all rfl) ⟨fun _ => am_rec_ok (c := 8) (by with_unfolding_all rfl) (by decide +kernel), fun z => by simp at z⟩
set_option maxRecDepth 20000 in
theorem b_42_148 {d nS : Nat} {x1 x3 x4 s0 : Int32} {M : am_M} {Q : Option Value → am_H → Prop} : am_Wp d 42 148 [.ref 187, .int x1, .ref 18, .int x3, .int x4] [.int s0] (hp nS M) Q = if ¬ s0 = 0 then am_Wp d 42 153 [.ref 187, .int x1, .ref 18, .int x3, .int x4] [] (hp nS M) Q else am_Wp d 42 151 [.ref 187, .int x1, .ref 18, .int x3, .int x4] [] (hp nS M) Q := by
  exact eq_if_ne (by with_unfolding_all rfl)
set_option maxRecDepth 20000 in
theorem b_42_151 {d nS : Nat} {x1 x3 x4 : Int32} {M : am_M} {Q : Option Value → am_H → Prop} : am_Wp d 42 151 [.ref 187, .int x1, .ref 18, .int x3, .int x4] [] (hp nS M) Q = Q (some (.int 0)) (hp nS M) := by
  refine (eq_run 1 (q := (152, [.ref 187, .int x1, .ref 18, .int x3, .int x4], [.int 0], hp nS M)) (by with_unfolding_all rfl)).trans ?_
  exact eq_retI2 (e := (.ireturn, 1, 0, 0, 0)) (t := .boolean) (by with_unfolding_all rfl) rfl (by with_unfolding_all rfl) rfl
set_option maxRecDepth 20000 in
theorem b_42_153 {d nS : Nat} {x1 x3 x4 : Int32} {M : am_M} {Q : Option Value → am_H → Prop} : am_Wp d 42 153 [.ref 187, .int x1, .ref 18, .int x3, .int x4] [] (hp nS M) Q = am_Wp d 42 52 [.ref 187, .int x1, .ref 18, .int (x3 + 1), .int x4] [] (hp nS M) Q := by
  exact eq_run 2 (q := (52, [.ref 187, .int x1, .ref 18, .int (x3 + 1), .int x4], [], hp nS M)) (by with_unfolding_all rfl)
set_option maxRecDepth 20000 in
theorem b_42_159 {d nS : Nat} {x1 x3 : Int32} {zx4 : Value} {M : am_M} {Q : Option Value → am_H → Prop} : am_Wp d 42 159 [.ref 187, .int x1, .ref 18, .int x3, zx4] [] (hp nS M) Q = Q (some (.int 1)) (hp nS M) := by
  refine (eq_run 1 (q := (160, [.ref 187, .int x1, .ref 18, .int x3, zx4], [.int 1], hp nS M)) (by with_unfolding_all rfl)).trans ?_
  exact eq_retI2 (e := (.ireturn, 1, 0, 0, 0)) (t := .boolean) (by with_unfolding_all rfl) rfl (by with_unfolding_all rfl) rfl
-- LarkExchange$Reader splits()V (43, (187,))
set_option maxRecDepth 20000 in
theorem b_43_0 {d nS : Nat} {M : am_M} {Q : Option Value → am_H → Prop} : am_Wp d 43 0 [.ref 187, .retAddr 0, .retAddr 0] [] (hp nS M) Q = am_Wp d 43 7 [.ref 187, .int 0, .retAddr 0] [] (hp nS (am_up M 187 9 0)) Q := by
  exact eq_run 5 (q := (7, [.ref 187, .int 0, .retAddr 0], [], hp nS (am_up M 187 9 0))) (by with_unfolding_all rfl)
set_option maxRecDepth 20000 in
theorem b_43_7 {d nS : Nat} {x1 : Int32} {zx2 : Value} {M : am_M} {Q : Option Value → am_H → Prop} : am_Wp d 43 7 [.ref 187, .int x1, zx2] [] (hp nS M) Q = if (M 187 0) ≤ x1 then am_Wp d 43 64 [.ref 187, .int x1, zx2] [] (hp nS M) Q else am_Wp d 43 15 [.ref 187, .int x1, zx2] [] (hp nS M) Q := by
  refine (eq_run 3 (q := (12, [.ref 187, .int x1, zx2], [.int (M 187 0), .int x1], hp nS M)) (by with_unfolding_all rfl)).trans ?_
  exact eq_cmp_ge (by with_unfolding_all rfl)
set_option maxRecDepth 20000 in
theorem b_43_15 {d nS : Nat} {x1 : Int32} {zx2 : Value} {M : am_M} {Q : Option Value → am_H → Prop} : am_Wp (d + 1) 43 15 [.ref 187, .int x1, zx2] [] (hp nS M) Q = am_Wp d 312 0 [.ref 187, .int x1] [] (hp nS M) (fun v h1 => am_Wp (d + 1) 43 20 [.ref 187, .int x1, zx2] (am_ans v []) h1 Q) := by
  refine (eq_run 2 (q := (17, [.ref 187, .int x1, zx2], [.int x1, .ref 187], hp nS M)) (by with_unfolding_all rfl)).trans ?_
  exact eq_call2 (e := (.invokevirtual 91, 3, 0, 312, 113)) (as := [.ref 187, .int x1]) (r := []) (n := 2) (m := 2) (by with_unfolding_all rfl) rfl (by decide) (by with_unfolding_all rfl) (by decide) (by with_unfolding_all rfl) ⟨fun _ => am_rec_ok (c := 8) (by with_unfolding_all rfl) (by decide +kernel), fun z => by simp at z⟩
set_option maxRecDepth 20000 in
theorem b_43_45 {d nS : Nat} {x1 x2 s1 s2 : Int32} {M : am_M} {Q : Option Value → am_H → Prop} : am_Wp (d + 1) 43 45 [.ref 187, .int x1, .int x2] [.int s2, .int s1, .ref 187] (hp nS M) Q = am_Wp d 50 0 [.ref 187, .int x1, .int x2, .retAddr 0, .retAddr 0] [] (hp nS M) (fun v h1 => am_Wp (d + 1) 43 51 [.ref 187, .int x1, .int x2] (am_ans v [.int s2, .int s1, .ref 187]) h1 Q) := by
  refine (eq_run 3 (q := (48, [.ref 187, .int x1, .int x2], [.int x2, .int x1, .ref 187, .int s2, .int s1, .ref 187], hp nS M)) (by with_unfolding_all rfl)).trans ?_
  exact eq_call2 (e := (.invokevirtual 105, 3, 0, 50, 117)) (as := [.ref 187, .int x1, .int x2]) (r := [.int s2, .int s1, .ref 187]) (n := 3) (m := 5) (by with_unfolding_all rfl) rfl (by decide) (by with_unfolding_all rfl) (by decide) (by with_unfolding_all rfl) ⟨fun _ => am_rec_ok (c := 8) (by with_unfolding_all rfl) (by decide +kernel), fun z => by simp at z⟩
-- LarkExchange$Reader behindRun(I)I (44, (187, None))
set_option maxRecDepth 20000 in
theorem b_44_0 {d nS : Nat} {x1 : Int32} {M : am_M} {Q : Option Value → am_H → Prop} : am_Wp (d + 1) 44 0 [.ref 187, .int x1, .retAddr 0, .retAddr 0] [] (hp nS M) Q = am_Wp d 45 0 [.ref 187, .int x1] [] (hp nS M) (fun v h1 => am_Wp (d + 1) 44 5 [.ref 187, .int x1, .retAddr 0, .retAddr 0] (am_ans v []) h1 Q) := by
  refine (eq_run 2 (q := (2, [.ref 187, .int x1, .retAddr 0, .retAddr 0], [.int x1, .ref 187], hp nS M)) (by with_unfolding_all rfl)).trans ?_
  exact eq_call2 (e := (.invokevirtual 102, 3, 0, 45, 116)) (as := [.ref 187, .int x1]) (r := []) (n := 2) (m := 2) (by with_unfolding_all rfl) rfl (by decide) (by with_unfolding_all rfl) (by decide) (by with_unfolding_all rfl) ⟨fun _ => am_rec_ok (c := 8) (by with_unfolding_all rfl) (by decide +kernel), fun z => by simp at z⟩
set_option maxRecDepth 20000 in
theorem b_44_5 {d nS : Nat} {x1 s0 : Int32} {M : am_M} {Q : Option Value → am_H → Prop} : am_Wp d 44 5 [.ref 187, .int x1, .retAddr 0, .retAddr 0] [.int s0] (hp nS M) Q = if ¬ s0 = 0 then am_Wp d 44 24 [.ref 187, .int x1, .int s0, .int (x1 + 1)] [] (hp nS M) Q else am_Wp d 44 14 [.ref 187, .int x1, .int s0, .int (x1 + 1)] [] (hp nS M) Q := by
  refine (eq_run 6 (q := (11, [.ref 187, .int x1, .int s0, .int (x1 + 1)], [.int s0], hp nS M)) (by with_unfolding_all rfl)).trans ?_
  exact eq_if_ne (by with_unfolding_all rfl)
set_option maxRecDepth 20000 in
theorem b_44_14 {d nS : Nat} {x1 x2 x3 : Int32} {M : am_M} {Q : Option Value → am_H → Prop} : am_Wp (d + 1) 44 14 [.ref 187, .int x1, .int x2, .int x3] [] (hp nS M) Q = am_Wp d 46 0 [.ref 187, .int x1] [] (hp nS M) (fun v h1 => am_Wp (d + 1) 44 19 [.ref 187, .int x1, .int x2, .int x3] (am_ans v []) h1 Q) := by
  refine (eq_run 2 (q := (16, [.ref 187, .int x1, .int x2, .int x3], [.int x1, .ref 187], hp nS M)) (by with_unfolding_all rfl)).trans ?_
  exact eq_call2 (e := (.invokevirtual 112, 3, 0, 46, 119)) (as := [.ref 187, .int x1]) (r := []) (n := 2) (m := 2) (by with_unfolding_all rfl) rfl (by decide) (by with_unfolding_all rfl) (by decide) (by with_unfolding_all rfl) ⟨fun _ => am_rec_ok (c := 8) (by with_unfolding_all rfl) (by decide +kernel), fun z => by simp at z⟩
set_option maxRecDepth 20000 in
theorem b_44_19 {d nS : Nat} {x1 x2 x3 s0 : Int32} {M : am_M} {Q : Option Value → am_H → Prop} : am_Wp d 44 19 [.ref 187, .int x1, .int x2, .int x3] [.int s0] (hp nS M) Q = if ¬ s0 = 0 then am_Wp d 44 24 [.ref 187, .int x1, .int x2, .int x3] [] (hp nS M) Q else am_Wp d 44 22 [.ref 187, .int x1, .int x2, .int x3] [] (hp nS M) Q := by
  exact eq_if_ne (by with_unfolding_all rfl)
set_option maxRecDepth 20000 in
theorem b_44_22 {d nS : Nat} {x1 x2 x3 : Int32} {M : am_M} {Q : Option Value → am_H → Prop} : am_Wp d 44 22 [.ref 187, .int x1, .int x2, .int x3] [] (hp nS M) Q = Q (some (.int x3)) (hp nS M) := by
  refine (eq_run 1 (q := (23, [.ref 187, .int x1, .int x2, .int x3], [.int x3], hp nS M)) (by with_unfolding_all rfl)).trans ?_
  exact eq_retI2 (e := (.ireturn, 1, 0, 0, 0)) (t := .int) (by with_unfolding_all rfl) rfl (by with_unfolding_all rfl) rfl
set_option maxRecDepth 20000 in
theorem b_44_24 {d nS : Nat} {x1 x2 x3 : Int32} {M : am_M} {Q : Option Value → am_H → Prop} : am_Wp d 44 24 [.ref 187, .int x1, .int x2, .int x3] [] (hp nS M) Q = if (M 187 0) ≤ x3 then am_Wp d 44 61 [.ref 187, .int x1, .int x2, .int x3] [] (hp nS M) Q else am_Wp d 44 32 [.ref 187, .int x1, .int x2, .int x3] [] (hp nS M) Q := by
  refine (eq_run 3 (q := (29, [.ref 187, .int x1, .int x2, .int x3], [.int (M 187 0), .int x3], hp nS M)) (by with_unfolding_all rfl)).trans ?_
  exact eq_cmp_ge (by with_unfolding_all rfl)
set_option maxRecDepth 20000 in
theorem b_44_32 {d nS : Nat} {x1 x2 x3 : Int32} {M : am_M} {Q : Option Value → am_H → Prop} : am_Wp d 44 32 [.ref 187, .int x1, .int x2, .int x3] [] (hp nS M) Q = if x2 = 0 then am_Wp d 44 47 [.ref 187, .int x1, .int x2, .int x3] [] (hp nS M) Q else am_Wp d 44 36 [.ref 187, .int x1, .int x2, .int x3] [] (hp nS M) Q := by
  refine (eq_run 1 (q := (33, [.ref 187, .int x1, .int x2, .int x3], [.int x2], hp nS M)) (by with_unfolding_all rfl)).trans ?_
  exact eq_if_eq (by with_unfolding_all rfl)
set_option maxRecDepth 20000 in
theorem b_44_36 {d nS : Nat} {x1 x2 x3 : Int32} {M : am_M} {Q : Option Value → am_H → Prop} : am_Wp (d + 1) 44 36 [.ref 187, .int x1, .int x2, .int x3] [] (hp nS M) Q = am_Wp d 45 0 [.ref 187, .int x3] [] (hp nS M) (fun v h1 => am_Wp (d + 1) 44 41 [.ref 187, .int x1, .int x2, .int x3] (am_ans v []) h1 Q) := by
  refine (eq_run 2 (q := (38, [.ref 187, .int x1, .int x2, .int x3], [.int x3, .ref 187], hp nS M)) (by with_unfolding_all rfl)).trans ?_
  exact eq_call2 (e := (.invokevirtual 102, 3, 0, 45, 116)) (as := [.ref 187, .int x3]) (r := []) (n := 2) (m := 2) (by with_unfolding_all rfl) rfl (by decide) (by with_unfolding_all rfl) (by decide) (by with_unfolding_all rfl) ⟨fun _ => am_rec_ok (c := 8) (by with_unfolding_all rfl) (by decide +kernel), fun z => by simp at z⟩
set_option maxRecDepth 20000 in
theorem b_44_41 {d nS : Nat} {x1 x2 x3 s0 : Int32} {M : am_M} {Q : Option Value → am_H → Prop} : am_Wp d 44 41 [.ref 187, .int x1, .int x2, .int x3] [.int s0] (hp nS M) Q = if s0 = 0 then am_Wp d 44 61 [.ref 187, .int x1, .int x2, .int x3] [] (hp nS M) Q else am_Wp d 44 44 [.ref 187, .int x1, .int x2, .int x3] [] (hp nS M) Q := by
  exact eq_if_eq (by with_unfolding_all rfl)
set_option maxRecDepth 20000 in
theorem b_44_44 {d nS : Nat} {x1 x2 x3 : Int32} {M : am_M} {Q : Option Value → am_H → Prop} : am_Wp d 44 44 [.ref 187, .int x1, .int x2, .int x3] [] (hp nS M) Q = am_Wp d 44 55 [.ref 187, .int x1, .int x2, .int x3] [] (hp nS M) Q := by
  exact eq_run 1 (q := (55, [.ref 187, .int x1, .int x2, .int x3], [], hp nS M)) (by with_unfolding_all rfl)
set_option maxRecDepth 20000 in
theorem b_44_47 {d nS : Nat} {x1 x2 x3 : Int32} {M : am_M} {Q : Option Value → am_H → Prop} : am_Wp (d + 1) 44 47 [.ref 187, .int x1, .int x2, .int x3] [] (hp nS M) Q = am_Wp d 46 0 [.ref 187, .int x3] [] (hp nS M) (fun v h1 => am_Wp (d + 1) 44 52 [.ref 187, .int x1, .int x2, .int x3] (am_ans v []) h1 Q) := by
  refine (eq_run 2 (q := (49, [.ref 187, .int x1, .int x2, .int x3], [.int x3, .ref 187], hp nS M)) (by with_unfolding_all rfl)).trans ?_
  exact eq_call2 (e := (.invokevirtual 112, 3, 0, 46, 119)) (as := [.ref 187, .int x3]) (r := []) (n := 2) (m := 2) (by with_unfolding_all rfl) rfl (by decide) (by with_unfolding_all rfl) (by decide) (by with_unfolding_all rfl) ⟨fun _ => am_rec_ok (c := 8) (by with_unfolding_all rfl) (by decide +kernel), fun z => by simp at z⟩
set_option maxRecDepth 20000 in
theorem b_44_52 {d nS : Nat} {x1 x2 x3 s0 : Int32} {M : am_M} {Q : Option Value → am_H → Prop} : am_Wp d 44 52 [.ref 187, .int x1, .int x2, .int x3] [.int s0] (hp nS M) Q = if s0 = 0 then am_Wp d 44 61 [.ref 187, .int x1, .int x2, .int x3] [] (hp nS M) Q else am_Wp d 44 55 [.ref 187, .int x1, .int x2, .int x3] [] (hp nS M) Q := by
  exact eq_if_eq (by with_unfolding_all rfl)
set_option maxRecDepth 20000 in
theorem b_44_55 {d nS : Nat} {x1 x2 x3 : Int32} {M : am_M} {Q : Option Value → am_H → Prop} : am_Wp d 44 55 [.ref 187, .int x1, .int x2, .int x3] [] (hp nS M) Q = am_Wp d 44 24 [.ref 187, .int x1, .int x2, .int (x3 + 1)] [] (hp nS M) Q := by
  exact eq_run 2 (q := (24, [.ref 187, .int x1, .int x2, .int (x3 + 1)], [], hp nS M)) (by with_unfolding_all rfl)
set_option maxRecDepth 20000 in
theorem b_44_61 {d nS : Nat} {x1 x2 x3 : Int32} {M : am_M} {Q : Option Value → am_H → Prop} : am_Wp d 44 61 [.ref 187, .int x1, .int x2, .int x3] [] (hp nS M) Q = Q (some (.int x3)) (hp nS M) := by
  refine (eq_run 1 (q := (62, [.ref 187, .int x1, .int x2, .int x3], [.int x3], hp nS M)) (by with_unfolding_all rfl)).trans ?_
  exact eq_retI2 (e := (.ireturn, 1, 0, 0, 0)) (t := .int) (by with_unfolding_all rfl) rfl (by with_unfolding_all rfl) rfl
-- LarkExchange$Reader isDigit(I)Z (45, (187, None))
set_option maxRecDepth 20000 in
theorem b_45_0 {d nS : Nat} {x1 : Int32} {M : am_M} {Q : Option Value → am_H → Prop} : am_Wp d 45 0 [.ref 187, .int x1] [] (hp nS M) Q = if (M 187 0) ≤ x1 then am_Wp d 45 34 [.ref 187, .int x1] [] (hp nS M) Q else am_Wp d 45 8 [.ref 187, .int x1] [] (hp nS M) Q := by
  refine (eq_run 3 (q := (5, [.ref 187, .int x1], [.int (M 187 0), .int x1], hp nS M)) (by with_unfolding_all rfl)).trans ?_
  exact eq_cmp_ge (by with_unfolding_all rfl)
set_option maxRecDepth 20000 in
theorem b_45_8 {d nS : Nat} {x1 : Int32} {M : am_M} {Q : Option Value → am_H → Prop} (h1 : vp_in x1 400) : am_Wp d 45 8 [.ref 187, .int x1] [] (hp nS M) Q = if (M 198 x1.toNatClampNeg) < 48 then am_Wp d 45 34 [.ref 187, .int x1] [] (hp nS M) Q else am_Wp d 45 19 [.ref 187, .int x1] [] (hp nS M) Q := by
  refine (eq_run 3 (q := (13, [.ref 187, .int x1], [.int x1, .ref 198], hp nS M)) (by with_unfolding_all rfl)).trans ?_
  refine (eq_ald (e := (.iaload, 1, 0, 0, 0)) (by with_unfolding_all rfl) rfl (n := 400) (by with_unfolding_all rfl) h1).trans ?_
  refine (eq_run 1 (q := (16, [.ref 187, .int x1], [.int 48, .int (M 198 x1.toNatClampNeg)], hp nS M)) (by with_unfolding_all rfl)).trans ?_
  exact eq_cmp_lt (by with_unfolding_all rfl)
set_option maxRecDepth 20000 in
theorem b_45_19 {d nS : Nat} {x1 : Int32} {M : am_M} {Q : Option Value → am_H → Prop} (h1 : vp_in x1 400) : am_Wp d 45 19 [.ref 187, .int x1] [] (hp nS M) Q = if 57 < (M 198 x1.toNatClampNeg) then am_Wp d 45 34 [.ref 187, .int x1] [] (hp nS M) Q else am_Wp d 45 30 [.ref 187, .int x1] [] (hp nS M) Q := by
  refine (eq_run 3 (q := (24, [.ref 187, .int x1], [.int x1, .ref 198], hp nS M)) (by with_unfolding_all rfl)).trans ?_
  refine (eq_ald (e := (.iaload, 1, 0, 0, 0)) (by with_unfolding_all rfl) rfl (n := 400) (by with_unfolding_all rfl) h1).trans ?_
  refine (eq_run 1 (q := (27, [.ref 187, .int x1], [.int 57, .int (M 198 x1.toNatClampNeg)], hp nS M)) (by with_unfolding_all rfl)).trans ?_
  exact eq_cmp_gt (by with_unfolding_all rfl)
set_option maxRecDepth 20000 in
theorem b_45_30 {d nS : Nat} {x1 : Int32} {M : am_M} {Q : Option Value → am_H → Prop} : am_Wp d 45 30 [.ref 187, .int x1] [] (hp nS M) Q = am_Wp d 45 35 [.ref 187, .int x1] [.int 1] (hp nS M) Q := by
  exact eq_run 2 (q := (35, [.ref 187, .int x1], [.int 1], hp nS M)) (by with_unfolding_all rfl)
set_option maxRecDepth 20000 in
theorem b_45_34 {d nS : Nat} {x1 : Int32} {M : am_M} {Q : Option Value → am_H → Prop} : am_Wp d 45 34 [.ref 187, .int x1] [] (hp nS M) Q = am_Wp d 45 35 [.ref 187, .int x1] [.int 0] (hp nS M) Q := by
  exact eq_run 1 (q := (35, [.ref 187, .int x1], [.int 0], hp nS M)) (by with_unfolding_all rfl)
set_option maxRecDepth 20000 in
theorem b_45_35 {d nS : Nat} {x1 s0 : Int32} {M : am_M} {Q : Option Value → am_H → Prop} (h1 : am_rok .boolean s0 = true) : am_Wp d 45 35 [.ref 187, .int x1] [.int s0] (hp nS M) Q = Q (some (.int s0)) (hp nS M) := by
  exact eq_retI2 (e := (.ireturn, 1, 0, 0, 0)) (t := .boolean) (by with_unfolding_all rfl) rfl (by with_unfolding_all rfl) h1
-- LarkExchange$Reader isLetter(I)Z (46, (187, None))
set_option maxRecDepth 20000 in
theorem b_46_0 {d nS : Nat} {x1 : Int32} {M : am_M} {Q : Option Value → am_H → Prop} : am_Wp d 46 0 [.ref 187, .int x1] [] (hp nS M) Q = if (M 187 0) ≤ x1 then am_Wp d 46 56 [.ref 187, .int x1] [] (hp nS M) Q else am_Wp d 46 8 [.ref 187, .int x1] [] (hp nS M) Q := by
  refine (eq_run 3 (q := (5, [.ref 187, .int x1], [.int (M 187 0), .int x1], hp nS M)) (by with_unfolding_all rfl)).trans ?_
  exact eq_cmp_ge (by with_unfolding_all rfl)
set_option maxRecDepth 20000 in
theorem b_46_8 {d nS : Nat} {x1 : Int32} {M : am_M} {Q : Option Value → am_H → Prop} (h1 : vp_in x1 400) : am_Wp d 46 8 [.ref 187, .int x1] [] (hp nS M) Q = if (M 198 x1.toNatClampNeg) < 97 then am_Wp d 46 30 [.ref 187, .int x1] [] (hp nS M) Q else am_Wp d 46 19 [.ref 187, .int x1] [] (hp nS M) Q := by
  refine (eq_run 3 (q := (13, [.ref 187, .int x1], [.int x1, .ref 198], hp nS M)) (by with_unfolding_all rfl)).trans ?_
  refine (eq_ald (e := (.iaload, 1, 0, 0, 0)) (by with_unfolding_all rfl) rfl (n := 400) (by with_unfolding_all rfl) h1).trans ?_
  refine (eq_run 1 (q := (16, [.ref 187, .int x1], [.int 97, .int (M 198 x1.toNatClampNeg)], hp nS M)) (by with_unfolding_all rfl)).trans ?_
  exact eq_cmp_lt (by with_unfolding_all rfl)
set_option maxRecDepth 20000 in
theorem b_46_19 {d nS : Nat} {x1 : Int32} {M : am_M} {Q : Option Value → am_H → Prop} (h1 : vp_in x1 400) : am_Wp d 46 19 [.ref 187, .int x1] [] (hp nS M) Q = if (M 198 x1.toNatClampNeg) ≤ 122 then am_Wp d 46 52 [.ref 187, .int x1] [] (hp nS M) Q else am_Wp d 46 30 [.ref 187, .int x1] [] (hp nS M) Q := by
  refine (eq_run 3 (q := (24, [.ref 187, .int x1], [.int x1, .ref 198], hp nS M)) (by with_unfolding_all rfl)).trans ?_
  refine (eq_ald (e := (.iaload, 1, 0, 0, 0)) (by with_unfolding_all rfl) rfl (n := 400) (by with_unfolding_all rfl) h1).trans ?_
  refine (eq_run 1 (q := (27, [.ref 187, .int x1], [.int 122, .int (M 198 x1.toNatClampNeg)], hp nS M)) (by with_unfolding_all rfl)).trans ?_
  exact eq_cmp_le (by with_unfolding_all rfl)
set_option maxRecDepth 20000 in
theorem b_46_30 {d nS : Nat} {x1 : Int32} {M : am_M} {Q : Option Value → am_H → Prop} (h1 : vp_in x1 400) : am_Wp d 46 30 [.ref 187, .int x1] [] (hp nS M) Q = if (M 198 x1.toNatClampNeg) < 65 then am_Wp d 46 56 [.ref 187, .int x1] [] (hp nS M) Q else am_Wp d 46 41 [.ref 187, .int x1] [] (hp nS M) Q := by
  refine (eq_run 3 (q := (35, [.ref 187, .int x1], [.int x1, .ref 198], hp nS M)) (by with_unfolding_all rfl)).trans ?_
  refine (eq_ald (e := (.iaload, 1, 0, 0, 0)) (by with_unfolding_all rfl) rfl (n := 400) (by with_unfolding_all rfl) h1).trans ?_
  refine (eq_run 1 (q := (38, [.ref 187, .int x1], [.int 65, .int (M 198 x1.toNatClampNeg)], hp nS M)) (by with_unfolding_all rfl)).trans ?_
  exact eq_cmp_lt (by with_unfolding_all rfl)
set_option maxRecDepth 20000 in
theorem b_46_41 {d nS : Nat} {x1 : Int32} {M : am_M} {Q : Option Value → am_H → Prop} (h1 : vp_in x1 400) : am_Wp d 46 41 [.ref 187, .int x1] [] (hp nS M) Q = if 90 < (M 198 x1.toNatClampNeg) then am_Wp d 46 56 [.ref 187, .int x1] [] (hp nS M) Q else am_Wp d 46 52 [.ref 187, .int x1] [] (hp nS M) Q := by
  refine (eq_run 3 (q := (46, [.ref 187, .int x1], [.int x1, .ref 198], hp nS M)) (by with_unfolding_all rfl)).trans ?_
  refine (eq_ald (e := (.iaload, 1, 0, 0, 0)) (by with_unfolding_all rfl) rfl (n := 400) (by with_unfolding_all rfl) h1).trans ?_
  refine (eq_run 1 (q := (49, [.ref 187, .int x1], [.int 90, .int (M 198 x1.toNatClampNeg)], hp nS M)) (by with_unfolding_all rfl)).trans ?_
  exact eq_cmp_gt (by with_unfolding_all rfl)
set_option maxRecDepth 20000 in
theorem b_46_52 {d nS : Nat} {x1 : Int32} {M : am_M} {Q : Option Value → am_H → Prop} : am_Wp d 46 52 [.ref 187, .int x1] [] (hp nS M) Q = am_Wp d 46 57 [.ref 187, .int x1] [.int 1] (hp nS M) Q := by
  exact eq_run 2 (q := (57, [.ref 187, .int x1], [.int 1], hp nS M)) (by with_unfolding_all rfl)
set_option maxRecDepth 20000 in
theorem b_46_56 {d nS : Nat} {x1 : Int32} {M : am_M} {Q : Option Value → am_H → Prop} : am_Wp d 46 56 [.ref 187, .int x1] [] (hp nS M) Q = am_Wp d 46 57 [.ref 187, .int x1] [.int 0] (hp nS M) Q := by
  exact eq_run 1 (q := (57, [.ref 187, .int x1], [.int 0], hp nS M)) (by with_unfolding_all rfl)
set_option maxRecDepth 20000 in
theorem b_46_57 {d nS : Nat} {x1 s0 : Int32} {M : am_M} {Q : Option Value → am_H → Prop} (h1 : am_rok .boolean s0 = true) : am_Wp d 46 57 [.ref 187, .int x1] [.int s0] (hp nS M) Q = Q (some (.int s0)) (hp nS M) := by
  exact eq_retI2 (e := (.ireturn, 1, 0, 0, 0)) (t := .boolean) (by with_unfolding_all rfl) rfl (by with_unfolding_all rfl) h1
-- LarkExchange$Reader kindOf(II)I (47, (187, None, None))
set_option maxRecDepth 20000 in
theorem b_47_0 {d nS : Nat} {x1 x2 : Int32} {M : am_M} {Q : Option Value → am_H → Prop} : am_Wp (d + 1) 47 0 [.ref 187, .int x1, .int x2, .retAddr 0] [] (hp nS M) Q = am_Wp d 45 0 [.ref 187, .int x1] [] (hp nS M) (fun v h1 => am_Wp (d + 1) 47 5 [.ref 187, .int x1, .int x2, .retAddr 0] (am_ans v []) h1 Q) := by
  refine (eq_run 2 (q := (2, [.ref 187, .int x1, .int x2, .retAddr 0], [.int x1, .ref 187], hp nS M)) (by with_unfolding_all rfl)).trans ?_
  exact eq_call2 (e := (.invokevirtual 102, 3, 0, 45, 116)) (as := [.ref 187, .int x1]) (r := []) (n := 2) (m := 2) (by with_unfolding_all rfl) rfl (by decide) (by with_unfolding_all rfl) (by decide) (by with_unfolding_all rfl) ⟨fun _ => am_rec_ok (c := 8) (by with_unfolding_all rfl) (by decide +kernel), fun z => by simp at z⟩
set_option maxRecDepth 20000 in
theorem b_47_5 {d nS : Nat} {x1 x2 s0 : Int32} {M : am_M} {Q : Option Value → am_H → Prop} : am_Wp d 47 5 [.ref 187, .int x1, .int x2, .retAddr 0] [.int s0] (hp nS M) Q = if s0 = 0 then am_Wp d 47 23 [.ref 187, .int x1, .int x2, .retAddr 0] [] (hp nS M) Q else am_Wp d 47 8 [.ref 187, .int x1, .int x2, .retAddr 0] [] (hp nS M) Q := by
  exact eq_if_eq (by with_unfolding_all rfl)
set_option maxRecDepth 20000 in
theorem b_47_8 {d nS : Nat} {x1 x2 : Int32} {M : am_M} {Q : Option Value → am_H → Prop} : am_Wp d 47 8 [.ref 187, .int x1, .int x2, .retAddr 0] [] (hp nS M) Q = if 4 < (x2 - x1) then am_Wp d 47 20 [.ref 187, .int x1, .int x2, .retAddr 0] [] (hp nS M) Q else am_Wp d 47 15 [.ref 187, .int x1, .int x2, .retAddr 0] [] (hp nS M) Q := by
  refine (eq_run 4 (q := (12, [.ref 187, .int x1, .int x2, .retAddr 0], [.int 4, .int (x2 - x1)], hp nS M)) (by with_unfolding_all rfl)).trans ?_
  exact eq_cmp_gt (by with_unfolding_all rfl)
set_option maxRecDepth 20000 in
theorem b_47_15 {d nS : Nat} {x1 x2 : Int32} {M : am_M} {Q : Option Value → am_H → Prop} : am_Wp d 47 15 [.ref 187, .int x1, .int x2, .retAddr 0] [] (hp nS M) Q = am_Wp d 47 22 [.ref 187, .int x1, .int x2, .retAddr 0] [.int 36] (hp nS M) Q := by
  exact eq_run 2 (q := (22, [.ref 187, .int x1, .int x2, .retAddr 0], [.int 36], hp nS M)) (by with_unfolding_all rfl)
set_option maxRecDepth 20000 in
theorem b_47_20 {d nS : Nat} {x1 x2 : Int32} {M : am_M} {Q : Option Value → am_H → Prop} : am_Wp d 47 20 [.ref 187, .int x1, .int x2, .retAddr 0] [] (hp nS M) Q = am_Wp d 47 22 [.ref 187, .int x1, .int x2, .retAddr 0] [.int 38] (hp nS M) Q := by
  exact eq_run 1 (q := (22, [.ref 187, .int x1, .int x2, .retAddr 0], [.int 38], hp nS M)) (by with_unfolding_all rfl)
set_option maxRecDepth 20000 in
theorem b_47_22 {d nS : Nat} {x1 x2 s0 : Int32} {M : am_M} {Q : Option Value → am_H → Prop} : am_Wp d 47 22 [.ref 187, .int x1, .int x2, .retAddr 0] [.int s0] (hp nS M) Q = Q (some (.int s0)) (hp nS M) := by
  exact eq_retI2 (e := (.ireturn, 1, 0, 0, 0)) (t := .int) (by with_unfolding_all rfl) rfl (by with_unfolding_all rfl) rfl
set_option maxRecDepth 20000 in
theorem b_47_23 {d nS : Nat} {x1 x2 : Int32} {M : am_M} {Q : Option Value → am_H → Prop} : am_Wp (d + 1) 47 23 [.ref 187, .int x1, .int x2, .retAddr 0] [] (hp nS M) Q = am_Wp d 46 0 [.ref 187, .int x1] [] (hp nS M) (fun v h1 => am_Wp (d + 1) 47 28 [.ref 187, .int x1, .int x2, .retAddr 0] (am_ans v []) h1 Q) := by
  refine (eq_run 2 (q := (25, [.ref 187, .int x1, .int x2, .retAddr 0], [.int x1, .ref 187], hp nS M)) (by with_unfolding_all rfl)).trans ?_
  exact eq_call2 (e := (.invokevirtual 112, 3, 0, 46, 119)) (as := [.ref 187, .int x1]) (r := []) (n := 2) (m := 2) (by with_unfolding_all rfl) rfl (by decide) (by with_unfolding_all rfl) (by decide) (by with_unfolding_all rfl) ⟨fun _ => am_rec_ok (c := 8) (by with_unfolding_all rfl) (by decide +kernel), fun z => by simp at z⟩
set_option maxRecDepth 20000 in
theorem b_47_28 {d nS : Nat} {x1 x2 s0 : Int32} {M : am_M} {Q : Option Value → am_H → Prop} : am_Wp d 47 28 [.ref 187, .int x1, .int x2, .retAddr 0] [.int s0] (hp nS M) Q = if ¬ s0 = 0 then am_Wp d 47 58 [.ref 187, .int x1, .int x2, .retAddr 0] [] (hp nS M) Q else am_Wp d 47 31 [.ref 187, .int x1, .int x2, .retAddr 0] [] (hp nS M) Q := by
  exact eq_if_ne (by with_unfolding_all rfl)
set_option maxRecDepth 20000 in
theorem b_47_31 {d nS : Nat} {x1 x2 : Int32} {M : am_M} {Q : Option Value → am_H → Prop} (h1 : vp_in x1 400) : am_Wp (d + 1) 47 31 [.ref 187, .int x1, .int x2, .retAddr 0] [] (hp nS M) Q = am_Wp d 300 0 [.ref 4, .int (((M 198 x1.toNatClampNeg).toUInt32 % 65536).toInt32)] [] (hp nS M) (fun v h1 => am_Wp (d + 1) 47 43 [.ref 187, .int x1, .int x2, .retAddr 0] (am_ans v []) h1 Q) := by
  refine (eq_run 4 (q := (38, [.ref 187, .int x1, .int x2, .retAddr 0], [.int x1, .ref 198, .ref 4], hp nS M)) (by with_unfolding_all rfl)).trans ?_
  refine (eq_ald (e := (.iaload, 1, 0, 0, 0)) (by with_unfolding_all rfl) rfl (n := 400) (by with_unfolding_all rfl) h1).trans ?_
  refine (eq_run 1 (q := (40, [.ref 187, .int x1, .int x2, .retAddr 0], [.int (((M 198 x1.toNatClampNeg).toUInt32 % 65536).toInt32), .ref 4], hp nS M)) (by with_unfolding_all rfl)).trans ?_
  exact eq_call2 (e := (.invokevirtual 117, 3, 0, 300, 120)) (as := [.ref 4, .int (((M 198 x1.toNatClampNeg).toUInt32 % 65536).toInt32)]) (r := []) (n := 2) (m := 2) (by with_unfolding_all rfl) rfl (by decide) (by with_unfolding_all rfl) (by decide) (by with_unfolding_all rfl) ⟨fun _ => am_rec_ok (c := 15) (by with_unfolding_all rfl) (by decide +kernel), fun z => by simp at z⟩
set_option maxRecDepth 20000 in
theorem b_47_43 {d nS : Nat} {x1 x2 s0 : Int32} {M : am_M} {Q : Option Value → am_H → Prop} : am_Wp d 47 43 [.ref 187, .int x1, .int x2, .retAddr 0] [.int s0] (hp nS M) Q = if 0 ≤ s0 then am_Wp d 47 53 [.ref 187, .int x1, .int x2, .int s0] [] (hp nS M) Q else am_Wp d 47 48 [.ref 187, .int x1, .int x2, .int s0] [] (hp nS M) Q := by
  refine (eq_run 2 (q := (45, [.ref 187, .int x1, .int x2, .int s0], [.int s0], hp nS M)) (by with_unfolding_all rfl)).trans ?_
  exact eq_if_ge (by with_unfolding_all rfl)
set_option maxRecDepth 20000 in
theorem b_47_48 {d nS : Nat} {x1 x2 x3 : Int32} {M : am_M} {Q : Option Value → am_H → Prop} : am_Wp d 47 48 [.ref 187, .int x1, .int x2, .int x3] [] (hp nS M) Q = am_Wp d 47 57 [.ref 187, .int x1, .int x2, .int x3] [.int 38] (hp nS M) Q := by
  exact eq_run 2 (q := (57, [.ref 187, .int x1, .int x2, .int x3], [.int 38], hp nS M)) (by with_unfolding_all rfl)
set_option maxRecDepth 20000 in
theorem b_47_53 {d nS : Nat} {x1 x2 x3 : Int32} {M : am_M} {Q : Option Value → am_H → Prop} : am_Wp d 47 53 [.ref 187, .int x1, .int x2, .int x3] [] (hp nS M) Q = am_Wp d 47 57 [.ref 187, .int x1, .int x2, .int x3] [.int (26 + x3)] (hp nS M) Q := by
  exact eq_run 3 (q := (57, [.ref 187, .int x1, .int x2, .int x3], [.int (26 + x3)], hp nS M)) (by with_unfolding_all rfl)
set_option maxRecDepth 20000 in
theorem b_47_57 {d nS : Nat} {x1 x2 x3 s0 : Int32} {M : am_M} {Q : Option Value → am_H → Prop} : am_Wp d 47 57 [.ref 187, .int x1, .int x2, .int x3] [.int s0] (hp nS M) Q = Q (some (.int s0)) (hp nS M) := by
  exact eq_retI2 (e := (.ireturn, 1, 0, 0, 0)) (t := .int) (by with_unfolding_all rfl) rfl (by with_unfolding_all rfl) rfl
set_option maxRecDepth 20000 in
theorem b_47_58 {d nS : Nat} {x1 x2 : Int32} {M : am_M} {Q : Option Value → am_H → Prop} : am_Wp d 47 58 [.ref 187, .int x1, .int x2, .retAddr 0] [] (hp nS M) Q = am_Wp d 47 60 [.ref 187, .int x1, .int x2, .int 0] [] (hp nS M) Q := by
  exact eq_run 2 (q := (60, [.ref 187, .int x1, .int x2, .int 0], [], hp nS M)) (by with_unfolding_all rfl)
set_option maxRecDepth 20000 in
theorem b_47_60 {d nS : Nat} {x1 x2 x3 : Int32} {M : am_M} {Q : Option Value → am_H → Prop} : am_Wp d 47 60 [.ref 187, .int x1, .int x2, .int x3] [] (hp nS M) Q = if 26 ≤ x3 then am_Wp d 47 84 [.ref 187, .int x1, .int x2, .int x3] [] (hp nS M) Q else am_Wp d 47 66 [.ref 187, .int x1, .int x2, .int x3] [] (hp nS M) Q := by
  refine (eq_run 2 (q := (63, [.ref 187, .int x1, .int x2, .int x3], [.int 26, .int x3], hp nS M)) (by with_unfolding_all rfl)).trans ?_
  exact eq_cmp_ge (by with_unfolding_all rfl)
set_option maxRecDepth 20000 in
theorem b_47_66 {d nS : Nat} {x1 x2 x3 : Int32} {M : am_M} {Q : Option Value → am_H → Prop} : am_Wp (d + 1) 47 66 [.ref 187, .int x1, .int x2, .int x3] [] (hp nS M) Q = am_Wp d 48 0 [.ref 187, .int x3, .int x1, .int x2, .retAddr 0, .retAddr 0, .retAddr 0] [] (hp nS M) (fun v h1 => am_Wp (d + 1) 47 73 [.ref 187, .int x1, .int x2, .int x3] (am_ans v []) h1 Q) := by
  refine (eq_run 4 (q := (70, [.ref 187, .int x1, .int x2, .int x3], [.int x2, .int x1, .int x3, .ref 187], hp nS M)) (by with_unfolding_all rfl)).trans ?_
  exact eq_call2 (e := (.invokevirtual 122, 3, 0, 48, 121)) (as := [.ref 187, .int x3, .int x1, .int x2]) (r := []) (n := 4) (m := 7) (by with_unfolding_all rfl) rfl (by decide) (by with_unfolding_all rfl) (by decide) (by with_unfolding_all rfl) ⟨fun _ => am_rec_ok (c := 8) (by with_unfolding_all rfl) (by decide +kernel), fun z => by simp at z⟩
set_option maxRecDepth 20000 in
theorem b_47_73 {d nS : Nat} {x1 x2 x3 s0 : Int32} {M : am_M} {Q : Option Value → am_H → Prop} : am_Wp d 47 73 [.ref 187, .int x1, .int x2, .int x3] [.int s0] (hp nS M) Q = if s0 = 0 then am_Wp d 47 78 [.ref 187, .int x1, .int x2, .int x3] [] (hp nS M) Q else am_Wp d 47 76 [.ref 187, .int x1, .int x2, .int x3] [] (hp nS M) Q := by
  exact eq_if_eq (by with_unfolding_all rfl)
set_option maxRecDepth 20000 in
theorem b_47_76 {d nS : Nat} {x1 x2 x3 : Int32} {M : am_M} {Q : Option Value → am_H → Prop} : am_Wp d 47 76 [.ref 187, .int x1, .int x2, .int x3] [] (hp nS M) Q = Q (some (.int x3)) (hp nS M) := by
  refine (eq_run 1 (q := (77, [.ref 187, .int x1, .int x2, .int x3], [.int x3], hp nS M)) (by with_unfolding_all rfl)).trans ?_
  exact eq_retI2 (e := (.ireturn, 1, 0, 0, 0)) (t := .int) (by with_unfolding_all rfl) rfl (by with_unfolding_all rfl) rfl
set_option maxRecDepth 20000 in
theorem b_47_78 {d nS : Nat} {x1 x2 x3 : Int32} {M : am_M} {Q : Option Value → am_H → Prop} : am_Wp d 47 78 [.ref 187, .int x1, .int x2, .int x3] [] (hp nS M) Q = am_Wp d 47 60 [.ref 187, .int x1, .int x2, .int (x3 + 1)] [] (hp nS M) Q := by
  exact eq_run 2 (q := (60, [.ref 187, .int x1, .int x2, .int (x3 + 1)], [], hp nS M)) (by with_unfolding_all rfl)
set_option maxRecDepth 20000 in
theorem b_47_84 {d nS : Nat} {x1 x2 x3 : Int32} {M : am_M} {Q : Option Value → am_H → Prop} : am_Wp d 47 84 [.ref 187, .int x1, .int x2, .int x3] [] (hp nS M) Q = Q (some (.int 38)) (hp nS M) := by
  refine (eq_run 1 (q := (86, [.ref 187, .int x1, .int x2, .int x3], [.int 38], hp nS M)) (by with_unfolding_all rfl)).trans ?_
  exact eq_retI2 (e := (.ireturn, 1, 0, 0, 0)) (t := .int) (by with_unfolding_all rfl) rfl (by with_unfolding_all rfl) rfl
