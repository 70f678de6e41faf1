set_option maxRecDepth 20000 in
theorem b_169_0 (d nS : Nat) (x1 : Int32) (M : am_M) (Q : Option Value → am_H → Prop) : am_Wp d 169 0 [.ref 205, .int x1, .retAddr 0] [] (hp nS M) Q = Q (some (.int ((am_up M 205 0 0) 206 1))) (hp nS (am_up (am_up (am_up M 205 0 0) 206 1 x1) 205 5 0)) := by
  refine (eq_run 17 (q := (25, [.ref 205, .int x1, .int ((am_up M 205 0 0) 206 1)], [.int ((am_up M 205 0 0) 206 1)], hp nS (am_up (am_up (am_up M 205 0 0) 206 1 x1) 205 5 0))) (by with_unfolding_all rfl)).trans ?_
  exact eq_retI (e := (.ireturn, 1, 0, 0, 0)) (t := .int) (by with_unfolding_all rfl) rfl (by with_unfolding_all rfl) rfl
set_option maxRecDepth 20000 in
theorem b_170_0 (d nS : Nat) (x1 : Int32) (M : am_M) (Q : Option Value → am_H → Prop) : am_Wp (d + 1) 170 0 [.ref 205, .int x1, .retAddr 0] [] (hp nS M) Q = am_Wp d 171 0 [.ref 205, .int x1, .int 0, .int 9] [] (hp nS (am_up M 205 0 0)) (fun v h1 => am_Wp (d + 1) 170 13 [.ref 205, .int x1, .retAddr 0] (am_ans v []) h1 Q) := by
  refine (eq_run 7 (q := (10, [.ref 205, .int x1, .retAddr 0], [.int 9, .int 0, .int x1, .ref 205], hp nS (am_up M 205 0 0))) (by with_unfolding_all rfl)).trans ?_
  exact eq_call (e := (.invokevirtual 144, 3, 0, 171, 274)) (q := ([.ref 205, .int x1, .int 0, .int 9], [])) (by with_unfolding_all rfl) rfl (by decide) (by with_unfolding_all rfl) ⟨fun _ => am_rec_ok (c := 14) (by with_unfolding_all rfl) (by decide +kernel), fun z => by simp at z⟩
set_option maxRecDepth 20000 in
theorem b_170_13 (d nS : Nat) (x1 s0 : Int32) (M : am_M) (Q : Option Value → am_H → Prop) : am_Wp d 170 13 [.ref 205, .int x1, .retAddr 0] [.int s0] (hp nS M) Q = if s0 = 0 then am_Wp d 170 25 [.ref 205, .int x1, .retAddr 0] [] (hp nS M) Q else am_Wp d 170 16 [.ref 205, .int x1, .retAddr 0] [] (hp nS M) Q := by
  exact eq_br (e := (.ifCond .eq 12, 3, 25, 0, 0)) (by with_unfolding_all rfl) rfl (by with_unfolding_all rfl)
set_option maxRecDepth 20000 in
theorem b_170_16 (d nS : Nat) (x1 : Int32) (M : am_M) (Q : Option Value → am_H → Prop) : am_Wp d 170 16 [.ref 205, .int x1, .retAddr 0] [] (hp nS M) Q = if ¬ (M 205 8) = 6 then am_Wp d 170 27 [.ref 205, .int x1, .retAddr 0] [] (hp nS M) Q else am_Wp d 170 25 [.ref 205, .int x1, .retAddr 0] [] (hp nS M) Q := by
  refine (eq_run 3 (q := (22, [.ref 205, .int x1, .retAddr 0], [.int 6, .int (M 205 8)], hp nS M)) (by with_unfolding_all rfl)).trans ?_
  exact eq_br (e := (.if_icmp .ne 5, 3, 27, 0, 0)) (by with_unfolding_all rfl) rfl (by with_unfolding_all rfl)
set_option maxRecDepth 20000 in
theorem b_170_25 (d nS : Nat) (x1 : Int32) (M : am_M) (Q : Option Value → am_H → Prop) : am_Wp d 170 25 [.ref 205, .int x1, .retAddr 0] [] (hp nS M) Q = Q (some (.int (-1))) (hp nS M) := by
  refine (eq_run 1 (q := (26, [.ref 205, .int x1, .retAddr 0], [.int (-1)], hp nS M)) (by with_unfolding_all rfl)).trans ?_
  exact eq_retI (e := (.ireturn, 1, 0, 0, 0)) (t := .int) (by with_unfolding_all rfl) rfl (by with_unfolding_all rfl) rfl
set_option maxRecDepth 20000 in
theorem b_170_27 (d nS : Nat) (x1 : Int32) (M : am_M) (Q : Option Value → am_H → Prop) (h1 : vp_in (M 205 8) 6) : am_Wp d 170 27 [.ref 205, .int x1, .retAddr 0] [] (hp nS M) Q = am_Wp d 170 39 [.ref 205, .int x1, .int 4] [] (hp nS (am_up M 209 (M 205 8).toNatClampNeg x1)) Q := by
  refine (eq_run 5 (q := (36, [.ref 205, .int x1, .retAddr 0], [.int x1, .int (M 205 8), .ref 209], hp nS M)) (by with_unfolding_all rfl)).trans ?_
  refine (eq_ast (e := (.iastore, 1, 0, 0, 0)) (by with_unfolding_all rfl) rfl (n := 6) (by with_unfolding_all rfl) (by decide) h1).trans ?_
  exact eq_run 2 (q := (39, [.ref 205, .int x1, .int 4], [], hp nS (am_up M 209 (M 205 8).toNatClampNeg x1))) (by with_unfolding_all rfl)
set_option maxRecDepth 20000 in
theorem b_170_39 (d nS : Nat) (x1 x2 : Int32) (M : am_M) (Q : Option Value → am_H → Prop) : am_Wp d 170 39 [.ref 205, .int x1, .int x2] [] (hp nS M) Q = if 28 ≤ x2 then am_Wp d 170 65 [.ref 205, .int x1, .int x2] [] (hp nS M) Q else am_Wp d 170 45 [.ref 205, .int x1, .int x2] [] (hp nS M) Q := by
  refine (eq_run 2 (q := (42, [.ref 205, .int x1, .int x2], [.int 28, .int x2], hp nS M)) (by with_unfolding_all rfl)).trans ?_
  exact eq_br (e := (.if_icmp .ge 23, 3, 65, 0, 0)) (by with_unfolding_all rfl) rfl (by with_unfolding_all rfl)
set_option maxRecDepth 20000 in
theorem b_170_45 (d nS : Nat) (x1 x2 : Int32) (M : am_M) (Q : Option Value → am_H → Prop) (h1 : vp_in (x2 + (M 205 8)) 136) : am_Wp d 170 45 [.ref 205, .int x1, .int x2] [] (hp nS M) Q = am_Wp d 170 39 [.ref 205, .int x1, .int (x2 + 6)] [] (hp nS (am_up M 206 (x2 + (M 205 8)).toNatClampNeg 0)) Q := by
  refine (eq_run 7 (q := (56, [.ref 205, .int x1, .int x2], [.int 0, .int (x2 + (M 205 8)), .ref 206], hp nS M)) (by with_unfolding_all rfl)).trans ?_
  refine (eq_ast (e := (.iastore, 1, 0, 0, 0)) (by with_unfolding_all rfl) rfl (n := 136) (by with_unfolding_all rfl) (by decide) h1).trans ?_
  exact eq_run 5 (q := (39, [.ref 205, .int x1, .int (x2 + 6)], [], hp nS (am_up M 206 (x2 + (M 205 8)).toNatClampNeg 0))) (by with_unfolding_all rfl)
set_option maxRecDepth 20000 in
theorem b_170_65 (d nS : Nat) (x1 x2 : Int32) (M : am_M) (Q : Option Value → am_H → Prop) : am_Wp d 170 65 [.ref 205, .int x1, .int x2] [] (hp nS M) Q = Q (some (.int (((am_up (am_up M 205 8 ((M 205 8) + 1)) 205 5 0) 205 8) - 1))) (hp nS (am_up (am_up M 205 8 ((M 205 8) + 1)) 205 5 0)) := by
  refine (eq_run 13 (q := (86, [.ref 205, .int x1, .int x2], [.int (((am_up (am_up M 205 8 ((M 205 8) + 1)) 205 5 0) 205 8) - 1)], hp nS (am_up (am_up M 205 8 ((M 205 8) + 1)) 205 5 0))) (by with_unfolding_all rfl)).trans ?_
  exact eq_retI (e := (.ireturn, 1, 0, 0, 0)) (t := .int) (by with_unfolding_all rfl) rfl (by with_unfolding_all rfl) rfl
set_option maxRecDepth 20000 in
theorem b_294_0 (d nS : Nat) (x1 : Int32) (M : am_M) (Q : Option Value → am_H → Prop) : am_Wp d 294 0 [.ref 205, .int x1] [] (hp nS M) Q = if ¬ x1 = 0 then am_Wp d 294 14 [.ref 205, .int x1] [] (hp nS (am_up M 205 0 0)) Q else am_Wp d 294 9 [.ref 205, .int x1] [] (hp nS (am_up M 205 0 0)) Q := by
  refine (eq_run 4 (q := (6, [.ref 205, .int x1], [.int x1], hp nS (am_up M 205 0 0))) (by with_unfolding_all rfl)).trans ?_
  exact eq_br (e := (.ifCond .ne 8, 3, 14, 0, 0)) (by with_unfolding_all rfl) rfl (by with_unfolding_all rfl)
set_option maxRecDepth 20000 in
theorem b_294_9 (d nS : Nat) (x1 : Int32) (M : am_M) (Q : Option Value → am_H → Prop) : am_Wp d 294 9 [.ref 205, .int x1] [] (hp nS M) Q = Q (some (.int (M 205 8))) (hp nS M) := by
  refine (eq_run 2 (q := (13, [.ref 205, .int x1], [.int (M 205 8)], hp nS M)) (by with_unfolding_all rfl)).trans ?_
  exact eq_retI (e := (.ireturn, 1, 0, 0, 0)) (t := .int) (by with_unfolding_all rfl) rfl (by with_unfolding_all rfl) rfl
set_option maxRecDepth 20000 in
theorem b_294_14 (d nS : Nat) (x1 : Int32) (M : am_M) (Q : Option Value → am_H → Prop) : am_Wp d 294 14 [.ref 205, .int x1] [] (hp nS M) Q = if ¬ x1 = 1 then am_Wp d 294 24 [.ref 205, .int x1] [] (hp nS M) Q else am_Wp d 294 19 [.ref 205, .int x1] [] (hp nS M) Q := by
  refine (eq_run 2 (q := (16, [.ref 205, .int x1], [.int 1, .int x1], hp nS M)) (by with_unfolding_all rfl)).trans ?_
  exact eq_br (e := (.if_icmp .ne 8, 3, 24, 0, 0)) (by with_unfolding_all rfl) rfl (by with_unfolding_all rfl)
set_option maxRecDepth 20000 in
theorem b_294_19 (d nS : Nat) (x1 : Int32) (M : am_M) (Q : Option Value → am_H → Prop) : am_Wp d 294 19 [.ref 205, .int x1] [] (hp nS M) Q = Q (some (.int (M 205 9))) (hp nS M) := by
  refine (eq_run 2 (q := (23, [.ref 205, .int x1], [.int (M 205 9)], hp nS M)) (by with_unfolding_all rfl)).trans ?_
  exact eq_retI (e := (.ireturn, 1, 0, 0, 0)) (t := .int) (by with_unfolding_all rfl) rfl (by with_unfolding_all rfl) rfl
set_option maxRecDepth 20000 in
theorem b_294_24 (d nS : Nat) (x1 : Int32) (M : am_M) (Q : Option Value → am_H → Prop) : am_Wp d 294 24 [.ref 205, .int x1] [] (hp nS M) Q = if ¬ x1 = 2 then am_Wp d 294 34 [.ref 205, .int x1] [] (hp nS M) Q else am_Wp d 294 29 [.ref 205, .int x1] [] (hp nS M) Q := by
  refine (eq_run 2 (q := (26, [.ref 205, .int x1], [.int 2, .int x1], hp nS M)) (by with_unfolding_all rfl)).trans ?_
  exact eq_br (e := (.if_icmp .ne 8, 3, 34, 0, 0)) (by with_unfolding_all rfl) rfl (by with_unfolding_all rfl)
set_option maxRecDepth 20000 in
theorem b_294_29 (d nS : Nat) (x1 : Int32) (M : am_M) (Q : Option Value → am_H → Prop) : am_Wp d 294 29 [.ref 205, .int x1] [] (hp nS M) Q = Q (some (.int (M 205 10))) (hp nS M) := by
  refine (eq_run 2 (q := (33, [.ref 205, .int x1], [.int (M 205 10)], hp nS M)) (by with_unfolding_all rfl)).trans ?_
  exact eq_retI (e := (.ireturn, 1, 0, 0, 0)) (t := .int) (by with_unfolding_all rfl) rfl (by with_unfolding_all rfl) rfl
set_option maxRecDepth 20000 in
theorem b_294_34 (d nS : Nat) (x1 : Int32) (M : am_M) (Q : Option Value → am_H → Prop) : am_Wp d 294 34 [.ref 205, .int x1] [] (hp nS M) Q = if ¬ x1 = 3 then am_Wp d 294 46 [.ref 205, .int x1] [] (hp nS M) Q else am_Wp d 294 39 [.ref 205, .int x1] [] (hp nS M) Q := by
  refine (eq_run 2 (q := (36, [.ref 205, .int x1], [.int 3, .int x1], hp nS M)) (by with_unfolding_all rfl)).trans ?_
  exact eq_br (e := (.if_icmp .ne 10, 3, 46, 0, 0)) (by with_unfolding_all rfl) rfl (by with_unfolding_all rfl)
set_option maxRecDepth 20000 in
theorem b_294_39 (d nS : Nat) (x1 : Int32) (M : am_M) (Q : Option Value → am_H → Prop) : am_Wp d 294 39 [.ref 205, .int x1] [] (hp nS M) Q = Q (some (.int (M 206 3))) (hp nS M) := by
  refine (eq_run 4 (q := (45, [.ref 205, .int x1], [.int (M 206 3)], hp nS M)) (by with_unfolding_all rfl)).trans ?_
  exact eq_retI (e := (.ireturn, 1, 0, 0, 0)) (t := .int) (by with_unfolding_all rfl) rfl (by with_unfolding_all rfl) rfl
set_option maxRecDepth 20000 in
theorem b_294_46 (d nS : Nat) (x1 : Int32) (M : am_M) (Q : Option Value → am_H → Prop) : am_Wp d 294 46 [.ref 205, .int x1] [] (hp nS M) Q = if ¬ x1 = 4 then am_Wp d 294 62 [.ref 205, .int x1] [] (hp nS M) Q else am_Wp d 294 51 [.ref 205, .int x1] [] (hp nS M) Q := by
  refine (eq_run 2 (q := (48, [.ref 205, .int x1], [.int 4, .int x1], hp nS M)) (by with_unfolding_all rfl)).trans ?_
  exact eq_br (e := (.if_icmp .ne 14, 3, 62, 0, 0)) (by with_unfolding_all rfl) rfl (by with_unfolding_all rfl)
set_option maxRecDepth 20000 in
theorem b_294_51 (d nS : Nat) (x1 : Int32) (M : am_M) (Q : Option Value → am_H → Prop) : am_Wp (d + 1) 294 51 [.ref 205, .int x1] [] (hp nS M) Q = am_Wp d 295 0 [.ref 205, .int 16, .int (M 205 8), .retAddr 0, .retAddr 0] [] (hp nS M) (fun v h1 => am_Wp (d + 1) 294 61 [.ref 205, .int x1] (am_ans v []) h1 Q) := by
  refine (eq_run 4 (q := (58, [.ref 205, .int x1], [.int (M 205 8), .int 16, .ref 205], hp nS M)) (by with_unfolding_all rfl)).trans ?_
  exact eq_call (e := (.invokevirtual 485, 3, 0, 295, 362)) (q := ([.ref 205, .int 16, .int (M 205 8)], [])) (by with_unfolding_all rfl) rfl (by decide) (by with_unfolding_all rfl) ⟨fun _ => am_rec_ok (c := 14) (by with_unfolding_all rfl) (by decide +kernel), fun z => by simp at z⟩
set_option maxRecDepth 20000 in
theorem b_294_61 (d nS : Nat) (x1 s0 : Int32) (M : am_M) (Q : Option Value → am_H → Prop) : am_Wp d 294 61 [.ref 205, .int x1] [.int s0] (hp nS M) Q = Q (some (.int s0)) (hp nS M) := by
  exact eq_retI (e := (.ireturn, 1, 0, 0, 0)) (t := .int) (by with_unfolding_all rfl) rfl (by with_unfolding_all rfl) rfl
set_option maxRecDepth 20000 in
theorem b_294_62 (d nS : Nat) (x1 : Int32) (M : am_M) (Q : Option Value → am_H → Prop) : am_Wp d 294 62 [.ref 205, .int x1] [] (hp nS M) Q = if ¬ x1 = 5 then am_Wp d 294 78 [.ref 205, .int x1] [] (hp nS M) Q else am_Wp d 294 67 [.ref 205, .int x1] [] (hp nS M) Q := by
  refine (eq_run 2 (q := (64, [.ref 205, .int x1], [.int 5, .int x1], hp nS M)) (by with_unfolding_all rfl)).trans ?_
  exact eq_br (e := (.if_icmp .ne 14, 3, 78, 0, 0)) (by with_unfolding_all rfl) rfl (by with_unfolding_all rfl)
set_option maxRecDepth 20000 in
theorem b_294_67 (d nS : Nat) (x1 : Int32) (M : am_M) (Q : Option Value → am_H → Prop) : am_Wp (d + 1) 294 67 [.ref 205, .int x1] [] (hp nS M) Q = am_Wp d 295 0 [.ref 205, .int 46, .int (M 205 10), .retAddr 0, .retAddr 0] [] (hp nS M) (fun v h1 => am_Wp (d + 1) 294 77 [.ref 205, .int x1] (am_ans v []) h1 Q) := by
  refine (eq_run 4 (q := (74, [.ref 205, .int x1], [.int (M 205 10), .int 46, .ref 205], hp nS M)) (by with_unfolding_all rfl)).trans ?_
  exact eq_call (e := (.invokevirtual 485, 3, 0, 295, 362)) (q := ([.ref 205, .int 46, .int (M 205 10)], [])) (by with_unfolding_all rfl) rfl (by decide) (by with_unfolding_all rfl) ⟨fun _ => am_rec_ok (c := 14) (by with_unfolding_all rfl) (by decide +kernel), fun z => by simp at z⟩
set_option maxRecDepth 20000 in
theorem b_294_77 (d nS : Nat) (x1 s0 : Int32) (M : am_M) (Q : Option Value → am_H → Prop) : am_Wp d 294 77 [.ref 205, .int x1] [.int s0] (hp nS M) Q = Q (some (.int s0)) (hp nS M) := by
  exact eq_retI (e := (.ireturn, 1, 0, 0, 0)) (t := .int) (by with_unfolding_all rfl) rfl (by with_unfolding_all rfl) rfl
set_option maxRecDepth 20000 in
theorem b_294_78 (d nS : Nat) (x1 : Int32) (M : am_M) (Q : Option Value → am_H → Prop) : am_Wp d 294 78 [.ref 205, .int x1] [] (hp nS M) Q = if ¬ x1 = 6 then am_Wp d 294 91 [.ref 205, .int x1] [] (hp nS M) Q else am_Wp d 294 84 [.ref 205, .int x1] [] (hp nS M) Q := by
  refine (eq_run 2 (q := (81, [.ref 205, .int x1], [.int 6, .int x1], hp nS M)) (by with_unfolding_all rfl)).trans ?_
  exact eq_br (e := (.if_icmp .ne 10, 3, 91, 0, 0)) (by with_unfolding_all rfl) rfl (by with_unfolding_all rfl)
set_option maxRecDepth 20000 in
theorem b_294_84 (d nS : Nat) (x1 : Int32) (M : am_M) (Q : Option Value → am_H → Prop) : am_Wp d 294 84 [.ref 205, .int x1] [] (hp nS M) Q = Q (some (.int (M 206 0))) (hp nS M) := by
  refine (eq_run 4 (q := (90, [.ref 205, .int x1], [.int (M 206 0)], hp nS M)) (by with_unfolding_all rfl)).trans ?_
  exact eq_retI (e := (.ireturn, 1, 0, 0, 0)) (t := .int) (by with_unfolding_all rfl) rfl (by with_unfolding_all rfl) rfl
set_option maxRecDepth 20000 in
theorem b_294_91 (d nS : Nat) (x1 : Int32) (M : am_M) (Q : Option Value → am_H → Prop) : am_Wp d 294 91 [.ref 205, .int x1] [] (hp nS M) Q = if ¬ x1 = 7 then am_Wp d 294 104 [.ref 205, .int x1] [] (hp nS M) Q else am_Wp d 294 97 [.ref 205, .int x1] [] (hp nS M) Q := by
  refine (eq_run 2 (q := (94, [.ref 205, .int x1], [.int 7, .int x1], hp nS M)) (by with_unfolding_all rfl)).trans ?_
  exact eq_br (e := (.if_icmp .ne 10, 3, 104, 0, 0)) (by with_unfolding_all rfl) rfl (by with_unfolding_all rfl)
set_option maxRecDepth 20000 in
theorem b_294_97 (d nS : Nat) (x1 : Int32) (M : am_M) (Q : Option Value → am_H → Prop) : am_Wp d 294 97 [.ref 205, .int x1] [] (hp nS M) Q = Q (some (.int (M 206 2))) (hp nS M) := by
  refine (eq_run 4 (q := (103, [.ref 205, .int x1], [.int (M 206 2)], hp nS M)) (by with_unfolding_all rfl)).trans ?_
  exact eq_retI (e := (.ireturn, 1, 0, 0, 0)) (t := .int) (by with_unfolding_all rfl) rfl (by with_unfolding_all rfl) rfl
set_option maxRecDepth 20000 in
theorem b_294_104 (d nS : Nat) (x1 : Int32) (M : am_M) (Q : Option Value → am_H → Prop) : am_Wp d 294 104 [.ref 205, .int x1] [] (hp nS M) Q = if ¬ x1 = 8 then am_Wp d 294 117 [.ref 205, .int x1] [] (hp nS M) Q else am_Wp d 294 110 [.ref 205, .int x1] [] (hp nS M) Q := by
  refine (eq_run 2 (q := (107, [.ref 205, .int x1], [.int 8, .int x1], hp nS M)) (by with_unfolding_all rfl)).trans ?_
  exact eq_br (e := (.if_icmp .ne 10, 3, 117, 0, 0)) (by with_unfolding_all rfl) rfl (by with_unfolding_all rfl)
set_option maxRecDepth 20000 in
theorem b_294_110 (d nS : Nat) (x1 : Int32) (M : am_M) (Q : Option Value → am_H → Prop) : am_Wp d 294 110 [.ref 205, .int x1] [] (hp nS M) Q = Q (some (.int (M 206 1))) (hp nS M) := by
  refine (eq_run 4 (q := (116, [.ref 205, .int x1], [.int (M 206 1)], hp nS M)) (by with_unfolding_all rfl)).trans ?_
  exact eq_retI (e := (.ireturn, 1, 0, 0, 0)) (t := .int) (by with_unfolding_all rfl) rfl (by with_unfolding_all rfl) rfl
set_option maxRecDepth 20000 in
theorem b_294_117 (d nS : Nat) (x1 : Int32) (M : am_M) (Q : Option Value → am_H → Prop) : am_Wp d 294 117 [.ref 205, .int x1] [] (hp nS M) Q = if ¬ x1 = 9 then am_Wp d 294 130 [.ref 205, .int x1] [] (hp nS M) Q else am_Wp d 294 123 [.ref 205, .int x1] [] (hp nS M) Q := by
  refine (eq_run 2 (q := (120, [.ref 205, .int x1], [.int 9, .int x1], hp nS M)) (by with_unfolding_all rfl)).trans ?_
  exact eq_br (e := (.if_icmp .ne 10, 3, 130, 0, 0)) (by with_unfolding_all rfl) rfl (by with_unfolding_all rfl)
set_option maxRecDepth 20000 in
theorem b_294_123 (d nS : Nat) (x1 : Int32) (M : am_M) (Q : Option Value → am_H → Prop) : am_Wp d 294 123 [.ref 205, .int x1] [] (hp nS M) Q = Q (some (.int (M 214 0))) (hp nS M) := by
  refine (eq_run 4 (q := (129, [.ref 205, .int x1], [.int (M 214 0)], hp nS M)) (by with_unfolding_all rfl)).trans ?_
  exact eq_retI (e := (.ireturn, 1, 0, 0, 0)) (t := .int) (by with_unfolding_all rfl) rfl (by with_unfolding_all rfl) rfl
set_option maxRecDepth 20000 in
theorem b_294_130 (d nS : Nat) (x1 : Int32) (M : am_M) (Q : Option Value → am_H → Prop) : am_Wp d 294 130 [.ref 205, .int x1] [] (hp nS M) Q = if ¬ x1 = 10 then am_Wp d 294 141 [.ref 205, .int x1] [] (hp nS M) Q else am_Wp d 294 136 [.ref 205, .int x1] [] (hp nS M) Q := by
  refine (eq_run 2 (q := (133, [.ref 205, .int x1], [.int 10, .int x1], hp nS M)) (by with_unfolding_all rfl)).trans ?_
  exact eq_br (e := (.if_icmp .ne 8, 3, 141, 0, 0)) (by with_unfolding_all rfl) rfl (by with_unfolding_all rfl)
set_option maxRecDepth 20000 in
theorem b_294_136 (d nS : Nat) (x1 : Int32) (M : am_M) (Q : Option Value → am_H → Prop) : am_Wp d 294 136 [.ref 205, .int x1] [] (hp nS M) Q = Q (some (.int (M 205 37))) (hp nS M) := by
  refine (eq_run 2 (q := (140, [.ref 205, .int x1], [.int (M 205 37)], hp nS M)) (by with_unfolding_all rfl)).trans ?_
  exact eq_retI (e := (.ireturn, 1, 0, 0, 0)) (t := .int) (by with_unfolding_all rfl) rfl (by with_unfolding_all rfl) rfl
set_option maxRecDepth 20000 in
theorem b_294_141 (d nS : Nat) (x1 : Int32) (M : am_M) (Q : Option Value → am_H → Prop) : am_Wp d 294 141 [.ref 205, .int x1] [] (hp nS M) Q = if ¬ x1 = 11 then am_Wp d 294 152 [.ref 205, .int x1] [] (hp nS M) Q else am_Wp d 294 147 [.ref 205, .int x1] [] (hp nS M) Q := by
  refine (eq_run 2 (q := (144, [.ref 205, .int x1], [.int 11, .int x1], hp nS M)) (by with_unfolding_all rfl)).trans ?_
  exact eq_br (e := (.if_icmp .ne 8, 3, 152, 0, 0)) (by with_unfolding_all rfl) rfl (by with_unfolding_all rfl)
set_option maxRecDepth 20000 in
theorem b_294_147 (d nS : Nat) (x1 : Int32) (M : am_M) (Q : Option Value → am_H → Prop) : am_Wp d 294 147 [.ref 205, .int x1] [] (hp nS M) Q = Q (some (.int (M 205 39))) (hp nS M) := by
  refine (eq_run 2 (q := (151, [.ref 205, .int x1], [.int (M 205 39)], hp nS M)) (by with_unfolding_all rfl)).trans ?_
  exact eq_retI (e := (.ireturn, 1, 0, 0, 0)) (t := .int) (by with_unfolding_all rfl) rfl (by with_unfolding_all rfl) rfl
set_option maxRecDepth 20000 in
theorem b_294_152 (d nS : Nat) (x1 : Int32) (M : am_M) (Q : Option Value → am_H → Prop) : am_Wp d 294 152 [.ref 205, .int x1] [] (hp nS M) Q = if ¬ x1 = 12 then am_Wp d 294 163 [.ref 205, .int x1] [] (hp nS M) Q else am_Wp d 294 158 [.ref 205, .int x1] [] (hp nS M) Q := by
  refine (eq_run 2 (q := (155, [.ref 205, .int x1], [.int 12, .int x1], hp nS M)) (by with_unfolding_all rfl)).trans ?_
  exact eq_br (e := (.if_icmp .ne 8, 3, 163, 0, 0)) (by with_unfolding_all rfl) rfl (by with_unfolding_all rfl)
set_option maxRecDepth 20000 in
theorem b_294_158 (d nS : Nat) (x1 : Int32) (M : am_M) (Q : Option Value → am_H → Prop) : am_Wp d 294 158 [.ref 205, .int x1] [] (hp nS M) Q = Q (some (.int (M 205 41))) (hp nS M) := by
  refine (eq_run 2 (q := (162, [.ref 205, .int x1], [.int (M 205 41)], hp nS M)) (by with_unfolding_all rfl)).trans ?_
  exact eq_retI (e := (.ireturn, 1, 0, 0, 0)) (t := .int) (by with_unfolding_all rfl) rfl (by with_unfolding_all rfl) rfl
set_option maxRecDepth 20000 in
theorem b_294_163 (d nS : Nat) (x1 : Int32) (M : am_M) (Q : Option Value → am_H → Prop) : am_Wp d 294 163 [.ref 205, .int x1] [] (hp nS M) Q = if ¬ x1 = 13 then am_Wp d 294 176 [.ref 205, .int x1] [] (hp nS M) Q else am_Wp d 294 169 [.ref 205, .int x1] [] (hp nS M) Q := by
  refine (eq_run 2 (q := (166, [.ref 205, .int x1], [.int 13, .int x1], hp nS M)) (by with_unfolding_all rfl)).trans ?_
  exact eq_br (e := (.if_icmp .ne 10, 3, 176, 0, 0)) (by with_unfolding_all rfl) rfl (by with_unfolding_all rfl)
set_option maxRecDepth 20000 in
theorem b_294_169 (d nS : Nat) (x1 : Int32) (M : am_M) (Q : Option Value → am_H → Prop) : am_Wp d 294 169 [.ref 205, .int x1] [] (hp nS M) Q = am_Wp d 294 179 [.ref 205, .int x1] [.int (M 205 5)] (hp nS M) Q := by
  exact eq_run 3 (q := (179, [.ref 205, .int x1], [.int (M 205 5)], hp nS M)) (by with_unfolding_all rfl)
set_option maxRecDepth 20000 in
theorem b_294_176 (d nS : Nat) (x1 : Int32) (M : am_M) (Q : Option Value → am_H → Prop) : am_Wp d 294 176 [.ref 205, .int x1] [] (hp nS M) Q = am_Wp d 294 179 [.ref 205, .int x1] [.int (-100000)] (hp nS M) Q := by
  exact eq_run 1 (q := (179, [.ref 205, .int x1], [.int (-100000)], hp nS M)) (by with_unfolding_all rfl)
set_option maxRecDepth 20000 in
theorem b_294_179 (d nS : Nat) (x1 s0 : Int32) (M : am_M) (Q : Option Value → am_H → Prop) : am_Wp d 294 179 [.ref 205, .int x1] [.int s0] (hp nS M) Q = Q (some (.int s0)) (hp nS M) := by
  exact eq_retI (e := (.ireturn, 1, 0, 0, 0)) (t := .int) (by with_unfolding_all rfl) rfl (by with_unfolding_all rfl) rfl
set_option maxRecDepth 20000 in
theorem b_171_0 (d nS : Nat) (x1 x2 x3 : Int32) (M : am_M) (Q : Option Value → am_H → Prop) : am_Wp d 171 0 [.ref 205, .int x1, .int x2, .int x3] [] (hp nS M) Q = if x1 < x2 then am_Wp d 171 14 [.ref 205, .int x1, .int x2, .int x3] [] (hp nS M) Q else am_Wp d 171 5 [.ref 205, .int x1, .int x2, .int x3] [] (hp nS M) Q := by
  refine (eq_run 2 (q := (2, [.ref 205, .int x1, .int x2, .int x3], [.int x2, .int x1], hp nS M)) (by with_unfolding_all rfl)).trans ?_
  exact eq_br (e := (.if_icmp .lt 12, 3, 14, 0, 0)) (by with_unfolding_all rfl) rfl (by with_unfolding_all rfl)
set_option maxRecDepth 20000 in
theorem b_171_5 (d nS : Nat) (x1 x2 x3 : Int32) (M : am_M) (Q : Option Value → am_H → Prop) : am_Wp d 171 5 [.ref 205, .int x1, .int x2, .int x3] [] (hp nS M) Q = if x3 < x1 then am_Wp d 171 14 [.ref 205, .int x1, .int x2, .int x3] [] (hp nS M) Q else am_Wp d 171 10 [.ref 205, .int x1, .int x2, .int x3] [] (hp nS M) Q := by
  refine (eq_run 2 (q := (7, [.ref 205, .int x1, .int x2, .int x3], [.int x3, .int x1], hp nS M)) (by with_unfolding_all rfl)).trans ?_
  exact eq_br (e := (.if_icmp .gt 7, 3, 14, 0, 0)) (by with_unfolding_all rfl) rfl (by with_unfolding_all rfl)
set_option maxRecDepth 20000 in
theorem b_171_10 (d nS : Nat) (x1 x2 x3 : Int32) (M : am_M) (Q : Option Value → am_H → Prop) : am_Wp d 171 10 [.ref 205, .int x1, .int x2, .int x3] [] (hp nS M) Q = am_Wp d 171 15 [.ref 205, .int x1, .int x2, .int x3] [.int 1] (hp nS M) Q := by
  exact eq_run 2 (q := (15, [.ref 205, .int x1, .int x2, .int x3], [.int 1], hp nS M)) (by with_unfolding_all rfl)
set_option maxRecDepth 20000 in
theorem b_171_14 (d nS : Nat) (x1 x2 x3 : Int32) (M : am_M) (Q : Option Value → am_H → Prop) : am_Wp d 171 14 [.ref 205, .int x1, .int x2, .int x3] [] (hp nS M) Q = am_Wp d 171 15 [.ref 205, .int x1, .int x2, .int x3] [.int 0] (hp nS M) Q := by
  exact eq_run 1 (q := (15, [.ref 205, .int x1, .int x2, .int x3], [.int 0], hp nS M)) (by with_unfolding_all rfl)
set_option maxRecDepth 20000 in
theorem b_171_15 (d nS : Nat) (x1 x2 x3 s0 : Int32) (M : am_M) (Q : Option Value → am_H → Prop) (h1 : am_rok .boolean s0 = true) : am_Wp d 171 15 [.ref 205, .int x1, .int x2, .int x3] [.int s0] (hp nS M) Q = Q (some (.int s0)) (hp nS M) := by
  exact eq_retI (e := (.ireturn, 1, 0, 0, 0)) (t := .boolean) (by with_unfolding_all rfl) rfl (by with_unfolding_all rfl) h1
set_option maxRecDepth 20000 in
theorem b_223_0 (d nS : Nat) (M : am_M) (Q : Option Value → am_H → Prop) : am_Wp d 223 0 [.ref 205, .retAddr 0] [] (hp nS M) Q = if ¬ (M 205 5) = 6 then am_Wp d 223 55 [.ref 205, .retAddr 0] [] (hp nS M) Q else am_Wp d 223 9 [.ref 205, .retAddr 0] [] (hp nS M) Q := by
  refine (eq_run 3 (q := (6, [.ref 205, .retAddr 0], [.int 6, .int (M 205 5)], hp nS M)) (by with_unfolding_all rfl)).trans ?_
  exact eq_br (e := (.if_icmp .ne 49, 3, 55, 0, 0)) (by with_unfolding_all rfl) rfl (by with_unfolding_all rfl)
set_option maxRecDepth 20000 in
theorem b_223_9 (d nS : Nat) (M : am_M) (Q : Option Value → am_H → Prop) : am_Wp d 223 9 [.ref 205, .retAddr 0] [] (hp nS M) Q = am_Wp d 223 21 [.ref 205, .int 0] [] (hp nS (am_up M 205 5 ((M 205 5) - 1))) Q := by
  exact eq_run 8 (q := (21, [.ref 205, .int 0], [], hp nS (am_up M 205 5 ((M 205 5) - 1)))) (by with_unfolding_all rfl)
set_option maxRecDepth 20000 in
theorem b_223_21 (d nS : Nat) (x1 : Int32) (M : am_M) (Q : Option Value → am_H → Prop) : am_Wp d 223 21 [.ref 205, .int x1] [] (hp nS M) Q = if (136 * (M 205 5)) ≤ x1 then am_Wp d 223 55 [.ref 205, .int x1] [] (hp nS M) Q else am_Wp d 223 33 [.ref 205, .int x1] [] (hp nS M) Q := by
  refine (eq_run 5 (q := (30, [.ref 205, .int x1], [.int (136 * (M 205 5)), .int x1], hp nS M)) (by with_unfolding_all rfl)).trans ?_
  exact eq_br (e := (.if_icmp .ge 25, 3, 55, 0, 0)) (by with_unfolding_all rfl) rfl (by with_unfolding_all rfl)
set_option maxRecDepth 20000 in
theorem b_223_33 (d nS : Nat) (x1 : Int32) (M : am_M) (Q : Option Value → am_H → Prop) (h1 : vp_in (x1 + 136) 816) (h2 : vp_in x1 816) : am_Wp d 223 33 [.ref 205, .int x1] [] (hp nS M) Q = am_Wp d 223 21 [.ref 205, .int (x1 + 1)] [] (hp nS (am_up M 207 x1.toNatClampNeg (M 207 (x1 + 136).toNatClampNeg))) Q := by
  refine (eq_run 8 (q := (47, [.ref 205, .int x1], [.int (x1 + 136), .ref 207, .int x1, .ref 207], hp nS M)) (by with_unfolding_all rfl)).trans ?_
  refine (eq_ald (e := (.iaload, 1, 0, 0, 0)) (by with_unfolding_all rfl) rfl (n := 816) (by with_unfolding_all rfl) h1).trans ?_
  refine (eq_ast (e := (.iastore, 1, 0, 0, 0)) (by with_unfolding_all rfl) rfl (n := 816) (by with_unfolding_all rfl) (by decide) h2).trans ?_
  exact eq_run 2 (q := (21, [.ref 205, .int (x1 + 1)], [], hp nS (am_up M 207 x1.toNatClampNeg (M 207 (x1 + 136).toNatClampNeg)))) (by with_unfolding_all rfl)
set_option maxRecDepth 20000 in
theorem b_223_55 (d nS : Nat) (zx1 : Value) (M : am_M) (Q : Option Value → am_H → Prop) : am_Wp d 223 55 [.ref 205, zx1] [] (hp nS M) Q = am_Wp d 223 57 [.ref 205, .int 0] [] (hp nS M) Q := by
  exact eq_run 2 (q := (57, [.ref 205, .int 0], [], hp nS M)) (by with_unfolding_all rfl)
set_option maxRecDepth 20000 in
theorem b_223_57 (d nS : Nat) (x1 : Int32) (M : am_M) (Q : Option Value → am_H → Prop) : am_Wp d 223 57 [.ref 205, .int x1] [] (hp nS M) Q = if 136 ≤ x1 then am_Wp d 223 91 [.ref 205, .int x1] [] (hp nS M) Q else am_Wp d 223 64 [.ref 205, .int x1] [] (hp nS M) Q := by
  refine (eq_run 2 (q := (61, [.ref 205, .int x1], [.int 136, .int x1], hp nS M)) (by with_unfolding_all rfl)).trans ?_
  exact eq_br (e := (.if_icmp .ge 30, 3, 91, 0, 0)) (by with_unfolding_all rfl) rfl (by with_unfolding_all rfl)
set_option maxRecDepth 20000 in
theorem b_223_64 (d nS : Nat) (x1 : Int32) (M : am_M) (Q : Option Value → am_H → Prop) (h1 : vp_in x1 136) (h2 : vp_in ((136 * (M 205 5)) + x1) 816) : am_Wp d 223 64 [.ref 205, .int x1] [] (hp nS M) Q = am_Wp d 223 57 [.ref 205, .int (x1 + 1)] [] (hp nS (am_up M 207 ((136 * (M 205 5)) + x1).toNatClampNeg (M 206 x1.toNatClampNeg))) Q := by
  refine (eq_run 11 (q := (83, [.ref 205, .int x1], [.int x1, .ref 206, .int ((136 * (M 205 5)) + x1), .ref 207], hp nS M)) (by with_unfolding_all rfl)).trans ?_
  refine (eq_ald (e := (.iaload, 1, 0, 0, 0)) (by with_unfolding_all rfl) rfl (n := 136) (by with_unfolding_all rfl) h1).trans ?_
  refine (eq_ast (e := (.iastore, 1, 0, 0, 0)) (by with_unfolding_all rfl) rfl (n := 816) (by with_unfolding_all rfl) (by decide) h2).trans ?_
  exact eq_run 2 (q := (57, [.ref 205, .int (x1 + 1)], [], hp nS (am_up M 207 ((136 * (M 205 5)) + x1).toNatClampNeg (M 206 x1.toNatClampNeg)))) (by with_unfolding_all rfl)
set_option maxRecDepth 20000 in
theorem b_223_91 (d nS : Nat) (x1 : Int32) (M : am_M) (Q : Option Value → am_H → Prop) : am_Wp d 223 91 [.ref 205, .int x1] [] (hp nS M) Q = Q none (hp nS (am_up M 205 5 ((M 205 5) + 1))) := by
  refine (eq_run 6 (q := (101, [.ref 205, .int x1], [], hp nS (am_up M 205 5 ((M 205 5) + 1)))) (by with_unfolding_all rfl)).trans ?_
  exact eq_retV (e := (.return_, 1, 0, 0, 0)) (by with_unfolding_all rfl) rfl (by with_unfolding_all rfl)
set_option maxRecDepth 20000 in
theorem b_269_0 (d nS : Nat) (x1 x2 : Int32) (M : am_M) (Q : Option Value → am_H → Prop) : am_Wp d 269 0 [.ref 205, .int x1, .int x2, .retAddr 0, .retAddr 0, .retAddr 0] [] (hp nS M) Q = am_Wp d 269 5 [.ref 205, .int x1, .int x2, .int x1, .int x2, .retAddr 0] [] (hp nS M) Q := by
  exact eq_run 4 (q := (5, [.ref 205, .int x1, .int x2, .int x1, .int x2, .retAddr 0], [], hp nS M)) (by with_unfolding_all rfl)
set_option maxRecDepth 20000 in
theorem b_269_5 (d nS : Nat) (x1 x2 x3 x4 : Int32) (zx5 : Value) (M : am_M) (Q : Option Value → am_H → Prop) : am_Wp d 269 5 [.ref 205, .int x1, .int x2, .int x3, .int x4, zx5] [] (hp nS M) Q = if x4 = 0 then am_Wp d 269 26 [.ref 205, .int x1, .int x2, .int x3, .int x4, zx5] [] (hp nS M) Q else am_Wp d 269 10 [.ref 205, .int x1, .int x2, .int x3, .int x4, zx5] [] (hp nS M) Q := by
  refine (eq_run 1 (q := (7, [.ref 205, .int x1, .int x2, .int x3, .int x4, zx5], [.int x4], hp nS M)) (by with_unfolding_all rfl)).trans ?_
  exact eq_br (e := (.ifCond .eq 19, 3, 26, 0, 0)) (by with_unfolding_all rfl) rfl (by with_unfolding_all rfl)
set_option maxRecDepth 20000 in
theorem b_269_10 (d nS : Nat) (x1 x2 x3 x4 : Int32) (zx5 : Value) (M : am_M) (Q : Option Value → am_H → Prop) (h1 : ¬ x4 = 0) : am_Wp d 269 10 [.ref 205, .int x1, .int x2, .int x3, .int x4, zx5] [] (hp nS M) Q = am_Wp d 269 5 [.ref 205, .int x1, .int x2, .int x4, .int (x3 - x3 / x4 * x4), .int (x3 - x3 / x4 * x4)] [] (hp nS M) Q := by
  refine (eq_run 2 (q := (13, [.ref 205, .int x1, .int x2, .int x3, .int x4, zx5], [.int x4, .int x3], hp nS M)) (by with_unfolding_all rfl)).trans ?_
  refine (eq_rem (e := (.irem, 1, 0, 0, 0)) (by with_unfolding_all rfl) rfl h1).trans ?_
  exact eq_run 6 (q := (5, [.ref 205, .int x1, .int x2, .int x4, .int (x3 - x3 / x4 * x4), .int (x3 - x3 / x4 * x4)], [], hp nS M)) (by with_unfolding_all rfl)
set_option maxRecDepth 20000 in
theorem b_269_26 (d nS : Nat) (x1 x2 x3 x4 : Int32) (zx5 : Value) (M : am_M) (Q : Option Value → am_H → Prop) : am_Wp d 269 26 [.ref 205, .int x1, .int x2, .int x3, .int x4, zx5] [] (hp nS M) Q = Q (some (.int x3)) (hp nS M) := by
  refine (eq_run 1 (q := (27, [.ref 205, .int x1, .int x2, .int x3, .int x4, zx5], [.int x3], hp nS M)) (by with_unfolding_all rfl)).trans ?_
  exact eq_retI (e := (.ireturn, 1, 0, 0, 0)) (t := .int) (by with_unfolding_all rfl) rfl (by with_unfolding_all rfl) rfl
set_option maxRecDepth 20000 in
theorem b_231_0 (d nS : Nat) (x1 : Int32) (M : am_M) (Q : Option Value → am_H → Prop) (h1 : vp_in (4 + x1) 136) : am_Wp d 231 0 [.ref 205, .int x1, .retAddr 0, .retAddr 0] [] (hp nS M) Q = am_Wp d 231 13 [.ref 205, .int x1, .int 0, .int 0] [] (hp nS (am_up M 206 (4 + x1).toNatClampNeg 0)) Q := by
  refine (eq_run 6 (q := (8, [.ref 205, .int x1, .retAddr 0, .retAddr 0], [.int 0, .int (4 + x1), .ref 206], hp nS M)) (by with_unfolding_all rfl)).trans ?_
  refine (eq_ast (e := (.iastore, 1, 0, 0, 0)) (by with_unfolding_all rfl) rfl (n := 136) (by with_unfolding_all rfl) (by decide) h1).trans ?_
  exact eq_run 4 (q := (13, [.ref 205, .int x1, .int 0, .int 0], [], hp nS (am_up M 206 (4 + x1).toNatClampNeg 0))) (by with_unfolding_all rfl)
set_option maxRecDepth 20000 in
theorem b_231_13 (d nS : Nat) (x1 x2 x3 : Int32) (M : am_M) (Q : Option Value → am_H → Prop) : am_Wp d 231 13 [.ref 205, .int x1, .int x2, .int x3] [] (hp nS M) Q = if 30 ≤ x3 then am_Wp d 231 100 [.ref 205, .int x1, .int x2, .int x3] [] (hp nS M) Q else am_Wp d 231 19 [.ref 205, .int x1, .int x2, .int x3] [] (hp nS M) Q := by
  refine (eq_run 2 (q := (16, [.ref 205, .int x1, .int x2, .int x3], [.int 30, .int x3], hp nS M)) (by with_unfolding_all rfl)).trans ?_
  exact eq_br (e := (.if_icmp .ge 84, 3, 100, 0, 0)) (by with_unfolding_all rfl) rfl (by with_unfolding_all rfl)
set_option maxRecDepth 20000 in
theorem b_231_19 (d nS : Nat) (x1 x2 x3 : Int32) (M : am_M) (Q : Option Value → am_H → Prop) : am_Wp d 231 19 [.ref 205, .int x1, .int x2, .int x3] [] (hp nS M) Q = if ¬ x2 = 0 then am_Wp d 231 100 [.ref 205, .int x1, .int x2, .int x3] [] (hp nS M) Q else am_Wp d 231 23 [.ref 205, .int x1, .int x2, .int x3] [] (hp nS M) Q := by
  refine (eq_run 1 (q := (20, [.ref 205, .int x1, .int x2, .int x3], [.int x2], hp nS M)) (by with_unfolding_all rfl)).trans ?_
  exact eq_br (e := (.ifCond .ne 80, 3, 100, 0, 0)) (by with_unfolding_all rfl) rfl (by with_unfolding_all rfl)
set_option maxRecDepth 20000 in
theorem b_231_23 (d nS : Nat) (x1 x2 x3 : Int32) (M : am_M) (Q : Option Value → am_H → Prop) (h1 : vp_in (4 + x1) 136) : am_Wp (d + 1) 231 23 [.ref 205, .int x1, .int x2, .int x3] [] (hp nS M) Q = am_Wp d 232 0 [.ref 205, .int x1, .int x3] [] (hp nS M) (fun v h1 => am_Wp (d + 1) 231 48 [.ref 205, .int x1, .int x2, .int x3] (am_ans v [.int (M 206 (4 + x1).toNatClampNeg), .int 999, .ref 205, .int (4 + x1), .ref 206]) h1 Q) := by
  refine (eq_run 12 (q := (41, [.ref 205, .int x1, .int x2, .int x3], [.int (4 + x1), .ref 206, .int 999, .ref 205, .int (4 + x1), .ref 206], hp nS M)) (by with_unfolding_all rfl)).trans ?_
  refine (eq_ald (e := (.iaload, 1, 0, 0, 0)) (by with_unfolding_all rfl) rfl (n := 136) (by with_unfolding_all rfl) h1).trans ?_
  refine (eq_run 3 (q := (45, [.ref 205, .int x1, .int x2, .int x3], [.int x3, .int x1, .ref 205, .int (M 206 (4 + x1).toNatClampNeg), .int 999, .ref 205, .int (4 + x1), .ref 206], hp nS M)) (by with_unfolding_all rfl)).trans ?_
  exact eq_call (e := (.invokevirtual 367, 3, 0, 232, 330)) (q := ([.ref 205, .int x1, .int x3], [.int (M 206 (4 + x1).toNatClampNeg), .int 999, .ref 205, .int (4 + x1), .ref 206])) (by with_unfolding_all rfl) rfl (by decide) (by with_unfolding_all rfl) ⟨fun _ => am_rec_ok (c := 14) (by with_unfolding_all rfl) (by decide +kernel), fun z => by simp at z⟩
set_option maxRecDepth 20000 in
theorem b_231_48 (d nS : Nat) (x1 x2 x3 s1 s3 s4 s5 : Int32) (M : am_M) (Q : Option Value → am_H → Prop) : am_Wp (d + 1) 231 48 [.ref 205, .int x1, .int x2, .int x3] [.int s5, .int s4, .int s3, .ref 205, .int s1, .ref 206] (hp nS M) Q = am_Wp d 225 0 [.ref 205, .int s3, .int (s4 + s5)] [] (hp nS M) (fun v h1 => am_Wp (d + 1) 231 52 [.ref 205, .int x1, .int x2, .int x3] (am_ans v [.int s1, .ref 206]) h1 Q) := by
  refine (eq_run 1 (q := (49, [.ref 205, .int x1, .int x2, .int x3], [.int (s4 + s5), .int s3, .ref 205, .int s1, .ref 206], hp nS M)) (by with_unfolding_all rfl)).trans ?_
  exact eq_call (e := (.invokevirtual 336, 3, 0, 225, 320)) (q := ([.ref 205, .int s3, .int (s4 + s5)], [.int s1, .ref 206])) (by with_unfolding_all rfl) rfl (by decide) (by with_unfolding_all rfl) ⟨fun _ => am_rec_ok (c := 14) (by with_unfolding_all rfl) (by decide +kernel), fun z => by simp at z⟩
set_option maxRecDepth 20000 in
theorem b_231_52 (d nS : Nat) (x1 x2 x3 s1 s2 : Int32) (M : am_M) (Q : Option Value → am_H → Prop) (h1 : vp_in s1 136) (h2 : vp_in (10 + x1) 136) (h3 : vp_in (4 + x1) 136) : am_Wp (d + 1) 231 52 [.ref 205, .int x1, .int x2, .int x3] [.int s2, .int s1, .ref 206] (hp nS M) Q = am_Wp d 239 0 [.ref 205, .int ((am_up M 206 s1.toNatClampNeg s2) 206 (10 + x1).toNatClampNeg), .int ((am_up M 206 s1.toNatClampNeg s2) 206 (4 + x1).toNatClampNeg)] [] (hp nS (am_up M 206 s1.toNatClampNeg s2)) (fun v h1 => am_Wp (d + 1) 231 82 [.ref 205, .int x1, .int x2, .int x3] (am_ans v [.int (10 + x1), .ref 206]) h1 Q) := by
  refine (eq_ast (e := (.iastore, 1, 0, 0, 0)) (by with_unfolding_all rfl) rfl (n := 136) (by with_unfolding_all rfl) (by decide) h1).trans ?_
  refine (eq_run 11 (q := (70, [.ref 205, .int x1, .int x2, .int x3], [.int (10 + x1), .ref 206, .ref 205, .int (10 + x1), .ref 206], hp nS (am_up M 206 s1.toNatClampNeg s2))) (by with_unfolding_all rfl)).trans ?_
  refine (eq_ald (e := (.iaload, 1, 0, 0, 0)) (by with_unfolding_all rfl) rfl (n := 136) (by with_unfolding_all rfl) h2).trans ?_
  refine (eq_run 5 (q := (78, [.ref 205, .int x1, .int x2, .int x3], [.int (4 + x1), .ref 206, .int ((am_up M 206 s1.toNatClampNeg s2) 206 (10 + x1).toNatClampNeg), .ref 205, .int (10 + x1), .ref 206], hp nS (am_up M 206 s1.toNatClampNeg s2))) (by with_unfolding_all rfl)).trans ?_
  refine (eq_ald (e := (.iaload, 1, 0, 0, 0)) (by with_unfolding_all rfl) rfl (n := 136) (by with_unfolding_all rfl) h3).trans ?_
  exact eq_call (e := (.invokevirtual 370, 3, 0, 239, 331)) (q := ([.ref 205, .int ((am_up M 206 s1.toNatClampNeg s2) 206 (10 + x1).toNatClampNeg), .int ((am_up M 206 s1.toNatClampNeg s2) 206 (4 + x1).toNatClampNeg)], [.int (10 + x1), .ref 206])) (by with_unfolding_all rfl) rfl (by decide) (by with_unfolding_all rfl) ⟨fun _ => am_rec_ok (c := 14) (by with_unfolding_all rfl) (by decide +kernel), fun z => by simp at z⟩
set_option maxRecDepth 20000 in
theorem b_231_82 (d nS : Nat) (x1 x2 x3 s1 s2 : Int32) (M : am_M) (Q : Option Value → am_H → Prop) (h1 : vp_in s1 136) : am_Wp (d + 1) 231 82 [.ref 205, .int x1, .int x2, .int x3] [.int s2, .int s1, .ref 206] (hp nS M) Q = am_Wp d 240 0 [.ref 205, .int x1, .int x3] [] (hp nS (am_up M 206 s1.toNatClampNeg s2)) (fun v h1 => am_Wp (d + 1) 231 90 [.ref 205, .int x1, .int x2, .int x3] (am_ans v [.ref 205]) h1 Q) := by
  refine (eq_ast (e := (.iastore, 1, 0, 0, 0)) (by with_unfolding_all rfl) rfl (n := 136) (by with_unfolding_all rfl) (by decide) h1).trans ?_
  refine (eq_run 4 (q := (87, [.ref 205, .int x1, .int x2, .int x3], [.int x3, .int x1, .ref 205, .ref 205], hp nS (am_up M 206 s1.toNatClampNeg s2))) (by with_unfolding_all rfl)).trans ?_
  exact eq_call (e := (.invokevirtual 373, 3, 0, 240, 332)) (q := ([.ref 205, .int x1, .int x3], [.ref 205])) (by with_unfolding_all rfl) rfl (by decide) (by with_unfolding_all rfl) ⟨fun _ => am_rec_ok (c := 14) (by with_unfolding_all rfl) (by decide +kernel), fun z => by simp at z⟩
set_option maxRecDepth 20000 in
theorem b_231_90 (d nS : Nat) (x1 x2 x3 s1 : Int32) (M : am_M) (Q : Option Value → am_H → Prop) : am_Wp (d + 1) 231 90 [.ref 205, .int x1, .int x2, .int x3] [.int s1, .ref 205] (hp nS M) Q = am_Wp d 241 0 [.ref 205, .int s1] [] (hp nS M) (fun v h1 => am_Wp (d + 1) 231 93 [.ref 205, .int x1, .int x2, .int x3] (am_ans v []) h1 Q) := by
  exact eq_call (e := (.invokevirtual 376, 3, 0, 241, 333)) (q := ([.ref 205, .int s1], [])) (by with_unfolding_all rfl) rfl (by decide) (by with_unfolding_all rfl) ⟨fun _ => am_rec_ok (c := 14) (by with_unfolding_all rfl) (by decide +kernel), fun z => by simp at z⟩
set_option maxRecDepth 20000 in
theorem b_231_93 (d nS : Nat) (x1 x2 x3 s0 : Int32) (M : am_M) (Q : Option Value → am_H → Prop) : am_Wp d 231 93 [.ref 205, .int x1, .int x2, .int x3] [.int s0] (hp nS M) Q = am_Wp d 231 13 [.ref 205, .int x1, .int s0, .int (x3 + 1)] [] (hp nS M) Q := by
  exact eq_run 3 (q := (13, [.ref 205, .int x1, .int s0, .int (x3 + 1)], [], hp nS M)) (by with_unfolding_all rfl)
set_option maxRecDepth 20000 in
theorem b_231_100 (d nS : Nat) (x1 x2 x3 : Int32) (M : am_M) (Q : Option Value → am_H → Prop) : am_Wp d 231 100 [.ref 205, .int x1, .int x2, .int x3] [] (hp nS M) Q = if x2 = 0 then am_Wp d 231 118 [.ref 205, .int x1, .int x2, .int x3] [] (hp nS M) Q else am_Wp d 231 104 [.ref 205, .int x1, .int x2, .int x3] [] (hp nS M) Q := by
  refine (eq_run 1 (q := (101, [.ref 205, .int x1, .int x2, .int x3], [.int x2], hp nS M)) (by with_unfolding_all rfl)).trans ?_
  exact eq_br (e := (.ifCond .eq 17, 3, 118, 0, 0)) (by with_unfolding_all rfl) rfl (by with_unfolding_all rfl)
set_option maxRecDepth 20000 in
theorem b_231_104 (d nS : Nat) (x1 x2 x3 : Int32) (M : am_M) (Q : Option Value → am_H → Prop) (h1 : vp_in (4 + x1) 136) : am_Wp (d + 1) 231 104 [.ref 205, .int x1, .int x2, .int x3] [] (hp nS M) Q = am_Wp d 226 0 [.ref 205, .int 0, .int x1, .int (M 206 (4 + x1).toNatClampNeg), .retAddr 0] [] (hp nS M) (fun v h1 => am_Wp (d + 1) 231 118 [.ref 205, .int x1, .int x2, .int x3] (am_ans v []) h1 Q) := by
  refine (eq_run 8 (q := (114, [.ref 205, .int x1, .int x2, .int x3], [.int (4 + x1), .ref 206, .int x1, .int 0, .ref 205], hp nS M)) (by with_unfolding_all rfl)).trans ?_
  refine (eq_ald (e := (.iaload, 1, 0, 0, 0)) (by with_unfolding_all rfl) rfl (n := 136) (by with_unfolding_all rfl) h1).trans ?_
  exact eq_call (e := (.invokevirtual 339, 3, 0, 226, 321)) (q := ([.ref 205, .int 0, .int x1, .int (M 206 (4 + x1).toNatClampNeg)], [])) (by with_unfolding_all rfl) rfl (by decide) (by with_unfolding_all rfl) ⟨fun _ => am_rec_ok (c := 14) (by with_unfolding_all rfl) (by decide +kernel), fun z => by simp at z⟩
set_option maxRecDepth 20000 in
theorem b_231_118 (d nS : Nat) (x1 x2 x3 : Int32) (M : am_M) (Q : Option Value → am_H → Prop) : am_Wp d 231 118 [.ref 205, .int x1, .int x2, .int x3] [] (hp nS M) Q = if ¬ x2 = 0 then am_Wp d 231 160 [.ref 205, .int x1, .int x2, .int x3] [] (hp nS M) Q else am_Wp d 231 122 [.ref 205, .int x1, .int x2, .int x3] [] (hp nS M) Q := by
  refine (eq_run 1 (q := (119, [.ref 205, .int x1, .int x2, .int x3], [.int x2], hp nS M)) (by with_unfolding_all rfl)).trans ?_
  exact eq_br (e := (.ifCond .ne 41, 3, 160, 0, 0)) (by with_unfolding_all rfl) rfl (by with_unfolding_all rfl)
set_option maxRecDepth 20000 in
theorem b_231_122 (d nS : Nat) (x1 x2 x3 : Int32) (M : am_M) (Q : Option Value → am_H → Prop) (h1 : vp_in (4 + x1) 136) : am_Wp d 231 122 [.ref 205, .int x1, .int x2, .int x3] [] (hp nS M) Q = if (M 206 (4 + x1).toNatClampNeg) < 500 then am_Wp d 231 160 [.ref 205, .int x1, .int x2, .int x3] [] (hp nS M) Q else am_Wp d 231 136 [.ref 205, .int x1, .int x2, .int x3] [] (hp nS M) Q := by
  refine (eq_run 5 (q := (129, [.ref 205, .int x1, .int x2, .int x3], [.int (4 + x1), .ref 206], hp nS M)) (by with_unfolding_all rfl)).trans ?_
  refine (eq_ald (e := (.iaload, 1, 0, 0, 0)) (by with_unfolding_all rfl) rfl (n := 136) (by with_unfolding_all rfl) h1).trans ?_
  refine (eq_run 1 (q := (133, [.ref 205, .int x1, .int x2, .int x3], [.int 500, .int (M 206 (4 + x1).toNatClampNeg)], hp nS M)) (by with_unfolding_all rfl)).trans ?_
  exact eq_br (e := (.if_icmp .lt 27, 3, 160, 0, 0)) (by with_unfolding_all rfl) rfl (by with_unfolding_all rfl)
set_option maxRecDepth 20000 in
theorem b_231_136 (d nS : Nat) (x1 x2 x3 : Int32) (M : am_M) (Q : Option Value → am_H → Prop) (h1 : vp_in (16 + x1) 136) (h2 : vp_in (4 + x1) 136) : am_Wp (d + 1) 231 136 [.ref 205, .int x1, .int x2, .int x3] [] (hp nS M) Q = am_Wp d 226 0 [.ref 205, .int 1, .int x1, .int ((am_up M 206 (16 + x1).toNatClampNeg 1) 206 (4 + x1).toNatClampNeg), .retAddr 0] [] (hp nS (am_up M 206 (16 + x1).toNatClampNeg 1)) (fun v h1 => am_Wp (d + 1) 231 160 [.ref 205, .int x1, .int x2, .int x3] (am_ans v []) h1 Q) := by
  refine (eq_run 6 (q := (145, [.ref 205, .int x1, .int x2, .int x3], [.int 1, .int (16 + x1), .ref 206], hp nS M)) (by with_unfolding_all rfl)).trans ?_
  refine (eq_ast (e := (.iastore, 1, 0, 0, 0)) (by with_unfolding_all rfl) rfl (n := 136) (by with_unfolding_all rfl) (by decide) h1).trans ?_
  refine (eq_run 8 (q := (156, [.ref 205, .int x1, .int x2, .int x3], [.int (4 + x1), .ref 206, .int x1, .int 1, .ref 205], hp nS (am_up M 206 (16 + x1).toNatClampNeg 1))) (by with_unfolding_all rfl)).trans ?_
  refine (eq_ald (e := (.iaload, 1, 0, 0, 0)) (by with_unfolding_all rfl) rfl (n := 136) (by with_unfolding_all rfl) h2).trans ?_
  exact eq_call (e := (.invokevirtual 339, 3, 0, 226, 321)) (q := ([.ref 205, .int 1, .int x1, .int ((am_up M 206 (16 + x1).toNatClampNeg 1) 206 (4 + x1).toNatClampNeg)], [])) (by with_unfolding_all rfl) rfl (by decide) (by with_unfolding_all rfl) ⟨fun _ => am_rec_ok (c := 14) (by with_unfolding_all rfl) (by decide +kernel), fun z => by simp at z⟩
set_option maxRecDepth 20000 in
theorem b_231_160 (d nS : Nat) (x1 x2 x3 : Int32) (M : am_M) (Q : Option Value → am_H → Prop) (h1 : vp_in (22 + x1) 136) : am_Wp (d + 1) 231 160 [.ref 205, .int x1, .int x2, .int x3] [] (hp nS M) Q = am_Wp d 239 0 [.ref 205, .int 0, .int ((M 206 (22 + x1).toNatClampNeg) - 1)] [] (hp nS M) (fun v h1 => am_Wp (d + 1) 231 184 [.ref 205, .int x1, .int x2, .int x3] (am_ans v [.int (22 + x1), .ref 206]) h1 Q) := by
  refine (eq_run 12 (q := (178, [.ref 205, .int x1, .int x2, .int x3], [.int (22 + x1), .ref 206, .int 0, .ref 205, .int (22 + x1), .ref 206], hp nS M)) (by with_unfolding_all rfl)).trans ?_
  refine (eq_ald (e := (.iaload, 1, 0, 0, 0)) (by with_unfolding_all rfl) rfl (n := 136) (by with_unfolding_all rfl) h1).trans ?_
  refine (eq_run 2 (q := (181, [.ref 205, .int x1, .int x2, .int x3], [.int ((M 206 (22 + x1).toNatClampNeg) - 1), .int 0, .ref 205, .int (22 + x1), .ref 206], hp nS M)) (by with_unfolding_all rfl)).trans ?_
  exact eq_call (e := (.invokevirtual 370, 3, 0, 239, 331)) (q := ([.ref 205, .int 0, .int ((M 206 (22 + x1).toNatClampNeg) - 1)], [.int (22 + x1), .ref 206])) (by with_unfolding_all rfl) rfl (by decide) (by with_unfolding_all rfl) ⟨fun _ => am_rec_ok (c := 14) (by with_unfolding_all rfl) (by decide +kernel), fun z => by simp at z⟩
set_option maxRecDepth 20000 in
theorem b_231_184 (d nS : Nat) (x1 x2 x3 s1 s2 : Int32) (M : am_M) (Q : Option Value → am_H → Prop) (h1 : vp_in s1 136) (h2 : am_rok .boolean x2 = true) : am_Wp d 231 184 [.ref 205, .int x1, .int x2, .int x3] [.int s2, .int s1, .ref 206] (hp nS M) Q = Q (some (.int x2)) (hp nS (am_up M 206 s1.toNatClampNeg s2)) := by
  refine (eq_ast (e := (.iastore, 1, 0, 0, 0)) (by with_unfolding_all rfl) rfl (n := 136) (by with_unfolding_all rfl) (by decide) h1).trans ?_
  refine (eq_run 1 (q := (186, [.ref 205, .int x1, .int x2, .int x3], [.int x2], hp nS (am_up M 206 s1.toNatClampNeg s2))) (by with_unfolding_all rfl)).trans ?_
  exact eq_retI (e := (.ireturn, 1, 0, 0, 0)) (t := .boolean) (by with_unfolding_all rfl) rfl (by with_unfolding_all rfl) h2
set_option maxRecDepth 20000 in
theorem b_185_0 (d nS : Nat) (M : am_M) (Q : Option Value → am_H → Prop) : am_Wp (d + 1) 185 0 [.ref 205, .retAddr 0] [] (hp nS M) Q = am_Wp d 186 0 [.ref 205, .int (M 205 16)] [] (hp nS M) (fun v h1 => am_Wp (d + 1) 185 8 [.ref 205, .retAddr 0] (am_ans v []) h1 Q) := by
  refine (eq_run 3 (q := (5, [.ref 205, .retAddr 0], [.int (M 205 16), .ref 205], hp nS M)) (by with_unfolding_all rfl)).trans ?_
  exact eq_call (e := (.invokevirtual 174, 3, 0, 186, 281)) (q := ([.ref 205, .int (M 205 16)], [])) (by with_unfolding_all rfl) rfl (by decide) (by with_unfolding_all rfl) ⟨fun _ => am_rec_ok (c := 14) (by with_unfolding_all rfl) (by decide +kernel), fun z => by simp at z⟩
set_option maxRecDepth 20000 in
theorem b_185_8 (d nS : Nat) (s0 : Int32) (M : am_M) (Q : Option Value → am_H → Prop) : am_Wp d 185 8 [.ref 205, .retAddr 0] [.int s0] (hp nS M) Q = if s0 = 32 then am_Wp d 185 26 [.ref 205, .retAddr 0] [] (hp nS M) Q else am_Wp d 185 13 [.ref 205, .retAddr 0] [] (hp nS M) Q := by
  refine (eq_run 1 (q := (10, [.ref 205, .retAddr 0], [.int 32, .int s0], hp nS M)) (by with_unfolding_all rfl)).trans ?_
  exact eq_br (e := (.if_icmp .eq 16, 3, 26, 0, 0)) (by with_unfolding_all rfl) rfl (by with_unfolding_all rfl)
set_option maxRecDepth 20000 in
theorem b_185_13 (d nS : Nat) (M : am_M) (Q : Option Value → am_H → Prop) : am_Wp (d + 1) 185 13 [.ref 205, .retAddr 0] [] (hp nS M) Q = am_Wp d 186 0 [.ref 205, .int (M 205 16)] [] (hp nS M) (fun v h1 => am_Wp (d + 1) 185 21 [.ref 205, .retAddr 0] (am_ans v []) h1 Q) := by
  refine (eq_run 3 (q := (18, [.ref 205, .retAddr 0], [.int (M 205 16), .ref 205], hp nS M)) (by with_unfolding_all rfl)).trans ?_
  exact eq_call (e := (.invokevirtual 174, 3, 0, 186, 281)) (q := ([.ref 205, .int (M 205 16)], [])) (by with_unfolding_all rfl) rfl (by decide) (by with_unfolding_all rfl) ⟨fun _ => am_rec_ok (c := 14) (by with_unfolding_all rfl) (by decide +kernel), fun z => by simp at z⟩
set_option maxRecDepth 20000 in
theorem b_185_21 (d nS : Nat) (s0 : Int32) (M : am_M) (Q : Option Value → am_H → Prop) : am_Wp d 185 21 [.ref 205, .retAddr 0] [.int s0] (hp nS M) Q = if ¬ s0 = 10 then am_Wp d 185 39 [.ref 205, .retAddr 0] [] (hp nS M) Q else am_Wp d 185 26 [.ref 205, .retAddr 0] [] (hp nS M) Q := by
  refine (eq_run 1 (q := (23, [.ref 205, .retAddr 0], [.int 10, .int s0], hp nS M)) (by with_unfolding_all rfl)).trans ?_
  exact eq_br (e := (.if_icmp .ne 16, 3, 39, 0, 0)) (by with_unfolding_all rfl) rfl (by with_unfolding_all rfl)
set_option maxRecDepth 20000 in
theorem b_185_26 (d nS : Nat) (M : am_M) (Q : Option Value → am_H → Prop) : am_Wp (d + 1) 185 26 [.ref 205, .retAddr 0] [] (hp nS M) Q = am_Wp d 186 0 [.ref 205, .int ((am_up M 205 16 ((M 205 16) + 1)) 205 16)] [] (hp nS (am_up M 205 16 ((M 205 16) + 1))) (fun v h1 => am_Wp (d + 1) 185 8 [.ref 205, .retAddr 0] (am_ans v []) h1 Q) := by
  refine (eq_run 10 (q := (5, [.ref 205, .retAddr 0], [.int ((am_up M 205 16 ((M 205 16) + 1)) 205 16), .ref 205], hp nS (am_up M 205 16 ((M 205 16) + 1)))) (by with_unfolding_all rfl)).trans ?_
  exact eq_call (e := (.invokevirtual 174, 3, 0, 186, 281)) (q := ([.ref 205, .int ((am_up M 205 16 ((M 205 16) + 1)) 205 16)], [])) (by with_unfolding_all rfl) rfl (by decide) (by with_unfolding_all rfl) ⟨fun _ => am_rec_ok (c := 14) (by with_unfolding_all rfl) (by decide +kernel), fun z => by simp at z⟩
set_option maxRecDepth 20000 in
theorem b_185_39 (d nS : Nat) (M : am_M) (Q : Option Value → am_H → Prop) : am_Wp (d + 1) 185 39 [.ref 205, .retAddr 0] [] (hp nS M) Q = am_Wp d 186 0 [.ref 205, .int ((am_up (am_up M 205 17 (M 205 16)) 205 18 1) 205 16)] [] (hp nS (am_up (am_up M 205 17 (M 205 16)) 205 18 1)) (fun v h1 => am_Wp (d + 1) 185 60 [.ref 205, .retAddr 0] (am_ans v []) h1 Q) := by
  refine (eq_run 10 (q := (57, [.ref 205, .retAddr 0], [.int ((am_up (am_up M 205 17 (M 205 16)) 205 18 1) 205 16), .ref 205], hp nS (am_up (am_up M 205 17 (M 205 16)) 205 18 1))) (by with_unfolding_all rfl)).trans ?_
  exact eq_call (e := (.invokevirtual 174, 3, 0, 186, 281)) (q := ([.ref 205, .int ((am_up (am_up M 205 17 (M 205 16)) 205 18 1) 205 16)], [])) (by with_unfolding_all rfl) rfl (by decide) (by with_unfolding_all rfl) ⟨fun _ => am_rec_ok (c := 14) (by with_unfolding_all rfl) (by decide +kernel), fun z => by simp at z⟩
set_option maxRecDepth 20000 in
theorem b_185_60 (d nS : Nat) (s0 : Int32) (M : am_M) (Q : Option Value → am_H → Prop) : am_Wp d 185 60 [.ref 205, .retAddr 0] [.int s0] (hp nS M) Q = if ¬ s0 = (-1) then am_Wp d 185 72 [.ref 205, .int s0] [] (hp nS M) Q else am_Wp d 185 66 [.ref 205, .int s0] [] (hp nS M) Q := by
  refine (eq_run 3 (q := (63, [.ref 205, .int s0], [.int (-1), .int s0], hp nS M)) (by with_unfolding_all rfl)).trans ?_
  exact eq_br (e := (.if_icmp .ne 9, 3, 72, 0, 0)) (by with_unfolding_all rfl) rfl (by with_unfolding_all rfl)
set_option maxRecDepth 20000 in
theorem b_185_66 (d nS : Nat) (x1 : Int32) (M : am_M) (Q : Option Value → am_H → Prop) : am_Wp d 185 66 [.ref 205, .int x1] [] (hp nS M) Q = Q none (hp nS (am_up M 205 18 0)) := by
  refine (eq_run 3 (q := (71, [.ref 205, .int x1], [], hp nS (am_up M 205 18 0))) (by with_unfolding_all rfl)).trans ?_
  exact eq_retV (e := (.return_, 1, 0, 0, 0)) (by with_unfolding_all rfl) rfl (by with_unfolding_all rfl)
set_option maxRecDepth 20000 in
theorem b_185_72 (d nS : Nat) (x1 : Int32) (M : am_M) (Q : Option Value → am_H → Prop) : am_Wp (d + 1) 185 72 [.ref 205, .int x1] [] (hp nS M) Q = am_Wp d 187 0 [.ref 205, .int x1] [] (hp nS (am_up (am_up M 205 16 ((M 205 16) + 1)) 205 19 x1)) (fun v h1 => am_Wp (d + 1) 185 92 [.ref 205, .int x1] (am_ans v []) h1 Q) := by
  refine (eq_run 11 (q := (89, [.ref 205, .int x1], [.int x1, .ref 205], hp nS (am_up (am_up M 205 16 ((M 205 16) + 1)) 205 19 x1))) (by with_unfolding_all rfl)).trans ?_
  exact eq_call (e := (.invokevirtual 187, 3, 0, 187, 282)) (q := ([.ref 205, .int x1], [])) (by with_unfolding_all rfl) rfl (by decide) (by with_unfolding_all rfl) ⟨fun _ => am_rec_ok (c := 14) (by with_unfolding_all rfl) (by decide +kernel), fun z => by simp at z⟩
set_option maxRecDepth 20000 in
theorem b_185_92 (d nS : Nat) (x1 s0 : Int32) (M : am_M) (Q : Option Value → am_H → Prop) : am_Wp d 185 92 [.ref 205, .int x1] [.int s0] (hp nS M) Q = if s0 = 0 then am_Wp d 185 155 [.ref 205, .int x1] [] (hp nS M) Q else am_Wp d 185 95 [.ref 205, .int x1] [] (hp nS M) Q := by
  exact eq_br (e := (.ifCond .eq 63, 3, 155, 0, 0)) (by with_unfolding_all rfl) rfl (by with_unfolding_all rfl)
set_option maxRecDepth 20000 in
theorem b_185_95 (d nS : Nat) (x1 : Int32) (M : am_M) (Q : Option Value → am_H → Prop) : am_Wp (d + 1) 185 95 [.ref 205, .int x1] [] (hp nS M) Q = am_Wp d 186 0 [.ref 205, .int (M 205 16)] [] (hp nS M) (fun v h1 => am_Wp (d + 1) 185 104 [.ref 205, .int x1] (am_ans v [.ref 205]) h1 Q) := by
  refine (eq_run 4 (q := (101, [.ref 205, .int x1], [.int (M 205 16), .ref 205, .ref 205], hp nS M)) (by with_unfolding_all rfl)).trans ?_
  exact eq_call (e := (.invokevirtual 174, 3, 0, 186, 281)) (q := ([.ref 205, .int (M 205 16)], [.ref 205])) (by with_unfolding_all rfl) rfl (by decide) (by with_unfolding_all rfl) ⟨fun _ => am_rec_ok (c := 14) (by with_unfolding_all rfl) (by decide +kernel), fun z => by simp at z⟩
set_option maxRecDepth 20000 in
theorem b_185_104 (d nS : Nat) (x1 s1 : Int32) (M : am_M) (Q : Option Value → am_H → Prop) : am_Wp (d + 1) 185 104 [.ref 205, .int x1] [.int s1, .ref 205] (hp nS M) Q = am_Wp d 187 0 [.ref 205, .int s1] [] (hp nS M) (fun v h1 => am_Wp (d + 1) 185 107 [.ref 205, .int x1] (am_ans v []) h1 Q) := by
  exact eq_call (e := (.invokevirtual 187, 3, 0, 187, 282)) (q := ([.ref 205, .int s1], [])) (by with_unfolding_all rfl) rfl (by decide) (by with_unfolding_all rfl) ⟨fun _ => am_rec_ok (c := 14) (by with_unfolding_all rfl) (by decide +kernel), fun z => by simp at z⟩
set_option maxRecDepth 20000 in
theorem b_185_107 (d nS : Nat) (x1 s0 : Int32) (M : am_M) (Q : Option Value → am_H → Prop) : am_Wp d 185 107 [.ref 205, .int x1] [.int s0] (hp nS M) Q = if s0 = 0 then am_Wp d 185 123 [.ref 205, .int x1] [] (hp nS M) Q else am_Wp d 185 110 [.ref 205, .int x1] [] (hp nS M) Q := by
  exact eq_br (e := (.ifCond .eq 16, 3, 123, 0, 0)) (by with_unfolding_all rfl) rfl (by with_unfolding_all rfl)
set_option maxRecDepth 20000 in
theorem b_185_110 (d nS : Nat) (x1 : Int32) (M : am_M) (Q : Option Value → am_H → Prop) : am_Wp d 185 110 [.ref 205, .int x1] [] (hp nS M) Q = am_Wp d 185 95 [.ref 205, .int x1] [] (hp nS (am_up M 205 16 ((M 205 16) + 1))) Q := by
  exact eq_run 7 (q := (95, [.ref 205, .int x1], [], hp nS (am_up M 205 16 ((M 205 16) + 1)))) (by with_unfolding_all rfl)
set_option maxRecDepth 20000 in
theorem b_185_123 (d nS : Nat) (x1 : Int32) (M : am_M) (Q : Option Value → am_H → Prop) : am_Wp (d + 1) 185 123 [.ref 205, .int x1] [] (hp nS M) Q = am_Wp d 188 0 [.ref 205, .int (M 205 17), .int (M 205 16), .retAddr 0, .retAddr 0, .retAddr 0] [] (hp nS M) (fun v h1 => am_Wp (d + 1) 185 136 [.ref 205, .int x1] (am_ans v [.ref 205]) h1 Q) := by
  refine (eq_run 6 (q := (133, [.ref 205, .int x1], [.int (M 205 16), .int (M 205 17), .ref 205, .ref 205], hp nS M)) (by with_unfolding_all rfl)).trans ?_
  exact eq_call (e := (.invokevirtual 190, 3, 0, 188, 283)) (q := ([.ref 205, .int (M 205 17), .int (M 205 16)], [.ref 205])) (by with_unfolding_all rfl) rfl (by decide) (by with_unfolding_all rfl) ⟨fun _ => am_rec_ok (c := 14) (by with_unfolding_all rfl) (by decide +kernel), fun z => by simp at z⟩
set_option maxRecDepth 20000 in
theorem b_185_136 (d nS : Nat) (x1 s1 : Int32) (M : am_M) (Q : Option Value → am_H → Prop) : am_Wp d 185 136 [.ref 205, .int x1] [.int s1, .ref 205] (hp nS M) Q = if ((am_up M 205 19 s1) 205 19) = (-1) then am_Wp d 185 273 [.ref 205, .int x1] [] (hp nS (am_up M 205 19 s1)) Q else am_Wp d 185 147 [.ref 205, .int x1] [] (hp nS (am_up M 205 19 s1)) Q := by
  refine (eq_run 4 (q := (144, [.ref 205, .int x1], [.int (-1), .int ((am_up M 205 19 s1) 205 19)], hp nS (am_up M 205 19 s1))) (by with_unfolding_all rfl)).trans ?_
  exact eq_br (e := (.if_icmp .eq 129, 3, 273, 0, 0)) (by with_unfolding_all rfl) rfl (by with_unfolding_all rfl)
set_option maxRecDepth 20000 in
theorem b_185_147 (d nS : Nat) (x1 : Int32) (M : am_M) (Q : Option Value → am_H → Prop) : am_Wp d 185 147 [.ref 205, .int x1] [] (hp nS M) Q = am_Wp d 185 273 [.ref 205, .int x1] [] (hp nS (am_up M 205 18 2)) Q := by
  exact eq_run 4 (q := (273, [.ref 205, .int x1], [], hp nS (am_up M 205 18 2))) (by with_unfolding_all rfl)
set_option maxRecDepth 20000 in
theorem b_185_155 (d nS : Nat) (x1 : Int32) (M : am_M) (Q : Option Value → am_H → Prop) : am_Wp (d + 1) 185 155 [.ref 205, .int x1] [] (hp nS M) Q = am_Wp d 189 0 [.ref 205, .int x1] [] (hp nS M) (fun v h1 => am_Wp (d + 1) 185 160 [.ref 205, .int x1] (am_ans v []) h1 Q) := by
  refine (eq_run 2 (q := (157, [.ref 205, .int x1], [.int x1, .ref 205], hp nS M)) (by with_unfolding_all rfl)).trans ?_
  exact eq_call (e := (.invokevirtual 193, 3, 0, 189, 284)) (q := ([.ref 205, .int x1], [])) (by with_unfolding_all rfl) rfl (by decide) (by with_unfolding_all rfl) ⟨fun _ => am_rec_ok (c := 14) (by with_unfolding_all rfl) (by decide +kernel), fun z => by simp at z⟩
set_option maxRecDepth 20000 in
theorem b_185_160 (d nS : Nat) (x1 s0 : Int32) (M : am_M) (Q : Option Value → am_H → Prop) : am_Wp d 185 160 [.ref 205, .int x1] [.int s0] (hp nS M) Q = if s0 = 0 then am_Wp d 185 260 [.ref 205, .int x1] [] (hp nS M) Q else am_Wp d 185 163 [.ref 205, .int x1] [] (hp nS M) Q := by
  exact eq_br (e := (.ifCond .eq 100, 3, 260, 0, 0)) (by with_unfolding_all rfl) rfl (by with_unfolding_all rfl)
set_option maxRecDepth 20000 in
theorem b_185_163 (d nS : Nat) (x1 : Int32) (M : am_M) (Q : Option Value → am_H → Prop) : am_Wp d 185 163 [.ref 205, .int x1] [] (hp nS M) Q = am_Wp d 185 171 [.ref 205, .int x1] [] (hp nS (am_up M 205 19 (x1 - 48))) Q := by
  exact eq_run 5 (q := (171, [.ref 205, .int x1], [], hp nS (am_up M 205 19 (x1 - 48)))) (by with_unfolding_all rfl)
set_option maxRecDepth 20000 in
theorem b_185_171 (d nS : Nat) (x1 : Int32) (M : am_M) (Q : Option Value → am_H → Prop) : am_Wp (d + 1) 185 171 [.ref 205, .int x1] [] (hp nS M) Q = am_Wp d 186 0 [.ref 205, .int (M 205 16)] [] (hp nS M) (fun v h1 => am_Wp (d + 1) 185 180 [.ref 205, .int x1] (am_ans v [.ref 205]) h1 Q) := by
  refine (eq_run 4 (q := (177, [.ref 205, .int x1], [.int (M 205 16), .ref 205, .ref 205], hp nS M)) (by with_unfolding_all rfl)).trans ?_
  exact eq_call (e := (.invokevirtual 174, 3, 0, 186, 281)) (q := ([.ref 205, .int (M 205 16)], [.ref 205])) (by with_unfolding_all rfl) rfl (by decide) (by with_unfolding_all rfl) ⟨fun _ => am_rec_ok (c := 14) (by with_unfolding_all rfl) (by decide +kernel), fun z => by simp at z⟩
set_option maxRecDepth 20000 in
theorem b_185_180 (d nS : Nat) (x1 s1 : Int32) (M : am_M) (Q : Option Value → am_H → Prop) : am_Wp (d + 1) 185 180 [.ref 205, .int x1] [.int s1, .ref 205] (hp nS M) Q = am_Wp d 189 0 [.ref 205, .int s1] [] (hp nS M) (fun v h1 => am_Wp (d + 1) 185 183 [.ref 205, .int x1] (am_ans v []) h1 Q) := by
  exact eq_call (e := (.invokevirtual 193, 3, 0, 189, 284)) (q := ([.ref 205, .int s1], [])) (by with_unfolding_all rfl) rfl (by decide) (by with_unfolding_all rfl) ⟨fun _ => am_rec_ok (c := 14) (by with_unfolding_all rfl) (by decide +kernel), fun z => by simp at z⟩
set_option maxRecDepth 20000 in
theorem b_185_183 (d nS : Nat) (x1 s0 : Int32) (M : am_M) (Q : Option Value → am_H → Prop) : am_Wp d 185 183 [.ref 205, .int x1] [.int s0] (hp nS M) Q = if s0 = 0 then am_Wp d 185 239 [.ref 205, .int x1] [] (hp nS M) Q else am_Wp d 185 186 [.ref 205, .int x1] [] (hp nS M) Q := by
  exact eq_br (e := (.ifCond .eq 56, 3, 239, 0, 0)) (by with_unfolding_all rfl) rfl (by with_unfolding_all rfl)
set_option maxRecDepth 20000 in
theorem b_185_186 (d nS : Nat) (x1 : Int32) (M : am_M) (Q : Option Value → am_H → Prop) : am_Wp d 185 186 [.ref 205, .int x1] [] (hp nS M) Q = if 10000 ≤ (M 205 19) then am_Wp d 185 219 [.ref 205, .int x1] [.ref 205] (hp nS M) Q else am_Wp d 185 197 [.ref 205, .int x1] [.ref 205] (hp nS M) Q := by
  refine (eq_run 4 (q := (194, [.ref 205, .int x1], [.int 10000, .int (M 205 19), .ref 205], hp nS M)) (by with_unfolding_all rfl)).trans ?_
  exact eq_br (e := (.if_icmp .ge 25, 3, 219, 0, 0)) (by with_unfolding_all rfl) rfl (by with_unfolding_all rfl)
set_option maxRecDepth 20000 in
theorem b_185_197 (d nS : Nat) (x1 : Int32) (M : am_M) (Q : Option Value → am_H → Prop) : am_Wp (d + 1) 185 197 [.ref 205, .int x1] [.ref 205] (hp nS M) Q = am_Wp d 186 0 [.ref 205, .int (M 205 16)] [] (hp nS M) (fun v h1 => am_Wp (d + 1) 185 212 [.ref 205, .int x1] (am_ans v [.int (10 * (M 205 19)), .ref 205]) h1 Q) := by
  refine (eq_run 7 (q := (209, [.ref 205, .int x1], [.int (M 205 16), .ref 205, .int (10 * (M 205 19)), .ref 205], hp nS M)) (by with_unfolding_all rfl)).trans ?_
  exact eq_call (e := (.invokevirtual 174, 3, 0, 186, 281)) (q := ([.ref 205, .int (M 205 16)], [.int (10 * (M 205 19)), .ref 205])) (by with_unfolding_all rfl) rfl (by decide) (by with_unfolding_all rfl) ⟨fun _ => am_rec_ok (c := 14) (by with_unfolding_all rfl) (by decide +kernel), fun z => by simp at z⟩
set_option maxRecDepth 20000 in
theorem b_185_212 (d nS : Nat) (x1 s1 s2 : Int32) (M : am_M) (Q : Option Value → am_H → Prop) : am_Wp d 185 212 [.ref 205, .int x1] [.int s2, .int s1, .ref 205] (hp nS M) Q = am_Wp d 185 223 [.ref 205, .int x1] [.int ((s1 + s2) - 48), .ref 205] (hp nS M) Q := by
  exact eq_run 4 (q := (223, [.ref 205, .int x1], [.int ((s1 + s2) - 48), .ref 205], hp nS M)) (by with_unfolding_all rfl)
set_option maxRecDepth 20000 in
theorem b_185_219 (d nS : Nat) (x1 : Int32) (M : am_M) (Q : Option Value → am_H → Prop) : am_Wp d 185 219 [.ref 205, .int x1] [.ref 205] (hp nS M) Q = am_Wp d 185 223 [.ref 205, .int x1] [.int (M 205 19), .ref 205] (hp nS M) Q := by
  exact eq_run 2 (q := (223, [.ref 205, .int x1], [.int (M 205 19), .ref 205], hp nS M)) (by with_unfolding_all rfl)
set_option maxRecDepth 20000 in
theorem b_185_223 (d nS : Nat) (x1 s1 : Int32) (M : am_M) (Q : Option Value → am_H → Prop) : am_Wp d 185 223 [.ref 205, .int x1] [.int s1, .ref 205] (hp nS M) Q = am_Wp d 185 171 [.ref 205, .int x1] [] (hp nS (am_up (am_up M 205 19 s1) 205 16 (((am_up M 205 19 s1) 205 16) + 1))) Q := by
  exact eq_run 8 (q := (171, [.ref 205, .int x1], [], hp nS (am_up (am_up M 205 19 s1) 205 16 (((am_up M 205 19 s1) 205 16) + 1)))) (by with_unfolding_all rfl)
set_option maxRecDepth 20000 in
theorem b_185_239 (d nS : Nat) (x1 : Int32) (M : am_M) (Q : Option Value → am_H → Prop) : am_Wp d 185 239 [.ref 205, .int x1] [] (hp nS M) Q = if 5 ≤ ((M 205 16) - (M 205 17)) then am_Wp d 185 273 [.ref 205, .int x1] [] (hp nS M) Q else am_Wp d 185 252 [.ref 205, .int x1] [] (hp nS M) Q := by
  refine (eq_run 6 (q := (249, [.ref 205, .int x1], [.int 5, .int ((M 205 16) - (M 205 17))], hp nS M)) (by with_unfolding_all rfl)).trans ?_
  exact eq_br (e := (.if_icmp .ge 24, 3, 273, 0, 0)) (by with_unfolding_all rfl) rfl (by with_unfolding_all rfl)
set_option maxRecDepth 20000 in
theorem b_185_252 (d nS : Nat) (x1 : Int32) (M : am_M) (Q : Option Value → am_H → Prop) : am_Wp d 185 252 [.ref 205, .int x1] [] (hp nS M) Q = am_Wp d 185 273 [.ref 205, .int x1] [] (hp nS (am_up M 205 18 3)) Q := by
  exact eq_run 4 (q := (273, [.ref 205, .int x1], [], hp nS (am_up M 205 18 3))) (by with_unfolding_all rfl)
set_option maxRecDepth 20000 in
theorem b_185_260 (d nS : Nat) (x1 : Int32) (M : am_M) (Q : Option Value → am_H → Prop) : am_Wp (d + 1) 185 260 [.ref 205, .int x1] [] (hp nS M) Q = am_Wp d 190 0 [.ref 205, .int x1] [] (hp nS M) (fun v h1 => am_Wp (d + 1) 185 265 [.ref 205, .int x1] (am_ans v []) h1 Q) := by
  refine (eq_run 2 (q := (262, [.ref 205, .int x1], [.int x1, .ref 205], hp nS M)) (by with_unfolding_all rfl)).trans ?_
  exact eq_call (e := (.invokevirtual 196, 3, 0, 190, 285)) (q := ([.ref 205, .int x1], [])) (by with_unfolding_all rfl) rfl (by decide) (by with_unfolding_all rfl) ⟨fun _ => am_rec_ok (c := 14) (by with_unfolding_all rfl) (by decide +kernel), fun z => by simp at z⟩
set_option maxRecDepth 20000 in
theorem b_185_265 (d nS : Nat) (x1 s0 : Int32) (M : am_M) (Q : Option Value → am_H → Prop) : am_Wp d 185 265 [.ref 205, .int x1] [.int s0] (hp nS M) Q = if s0 = 0 then am_Wp d 185 273 [.ref 205, .int x1] [] (hp nS M) Q else am_Wp d 185 268 [.ref 205, .int x1] [] (hp nS M) Q := by
  exact eq_br (e := (.ifCond .eq 8, 3, 273, 0, 0)) (by with_unfolding_all rfl) rfl (by with_unfolding_all rfl)
set_option maxRecDepth 20000 in
theorem b_185_268 (d nS : Nat) (x1 : Int32) (M : am_M) (Q : Option Value → am_H → Prop) : am_Wp d 185 268 [.ref 205, .int x1] [] (hp nS M) Q = am_Wp d 185 273 [.ref 205, .int x1] [] (hp nS (am_up M 205 18 4)) Q := by
  exact eq_run 3 (q := (273, [.ref 205, .int x1], [], hp nS (am_up M 205 18 4))) (by with_unfolding_all rfl)
set_option maxRecDepth 20000 in
theorem b_185_273 (d nS : Nat) (x1 : Int32) (M : am_M) (Q : Option Value → am_H → Prop) : am_Wp d 185 273 [.ref 205, .int x1] [] (hp nS M) Q = Q none (hp nS M) := by
  exact eq_retV (e := (.return_, 1, 0, 0, 0)) (by with_unfolding_all rfl) rfl (by with_unfolding_all rfl)
set_option maxRecDepth 20000 in
theorem b_242_0 (d nS : Nat) (x1 : Int32) (M : am_M) (Q : Option Value → am_H → Prop) (h1 : ¬ x1 = 0) : am_Wp d 242 0 [.ref 205, .int x1] [] (hp nS M) Q = Q (some (.int (((((am_up M 206 1 ((1664525 * (M 206 1)) + 1013904223)) 206 1).toUInt32 >>> ((8 : Int32).toUInt32 &&& Int32.toUInt32 31)).toInt32) - ((((am_up M 206 1 ((1664525 * (M 206 1)) + 1013904223)) 206 1).toUInt32 >>> ((8 : Int32).toUInt32 &&& Int32.toUInt32 31)).toInt32) / x1 * x1))) (hp nS (am_up M 206 1 ((1664525 * (M 206 1)) + 1013904223))) := by
  refine (eq_run 19 (q := (28, [.ref 205, .int x1], [.int x1, .int ((((am_up M 206 1 ((1664525 * (M 206 1)) + 1013904223)) 206 1).toUInt32 >>> ((8 : Int32).toUInt32 &&& Int32.toUInt32 31)).toInt32)], hp nS (am_up M 206 1 ((1664525 * (M 206 1)) + 1013904223)))) (by with_unfolding_all rfl)).trans ?_
  refine (eq_rem (e := (.irem, 1, 0, 0, 0)) (by with_unfolding_all rfl) rfl h1).trans ?_
  exact eq_retI (e := (.ireturn, 1, 0, 0, 0)) (t := .int) (by with_unfolding_all rfl) rfl (by with_unfolding_all rfl) rfl
