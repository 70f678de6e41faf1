-- window(II)I
set_option maxRecDepth 20000 in
theorem b_259_0 {d nS : Nat} {x1 x2 : Int32} {M : am_M} {Q : Option Value → am_H → Prop} : am_Wp (d + 1) 259 0 [.ref 205, .int x1, .int x2, .retAddr 0, .retAddr 0, .retAddr 0] [] (hp nS M) Q = am_Wp d 171 0 [.ref 205, .int x1, .int 1, .int 14] [] (hp nS (am_up M 205 0 0)) (fun v h1 => am_Wp (d + 1) 259 13 [.ref 205, .int x1, .int x2, .retAddr 0, .retAddr 0, .retAddr 0] (am_ans v []) h1 Q) := by
  refine (eq_run 7 (q := (10, [.ref 205, .int x1, .int x2, .retAddr 0, .retAddr 0, .retAddr 0], [.int 14, .int 1, .int x1, .ref 205], hp nS (am_up M 205 0 0))) (by with_unfolding_all rfl)).trans ?_
  exact eq_call2 (e := (.invokevirtual 144, 3, 0, 171, 275)) (as := [.ref 205, .int x1, .int 1, .int 14]) (r := []) (n := 4) (m := 4) (by with_unfolding_all rfl) rfl (by decide) (by with_unfolding_all rfl) (by decide) (by with_unfolding_all rfl) ⟨fun _ => am_rec_ok (c := 14) (by with_unfolding_all rfl) (by decide +kernel), fun z => by simp at z⟩
set_option maxRecDepth 20000 in
theorem b_259_13 {d nS : Nat} {x1 x2 s0 : Int32} {M : am_M} {Q : Option Value → am_H → Prop} : am_Wp d 259 13 [.ref 205, .int x1, .int x2, .retAddr 0, .retAddr 0, .retAddr 0] [.int s0] (hp nS M) Q = if s0 = 0 then am_Wp d 259 26 [.ref 205, .int x1, .int x2, .retAddr 0, .retAddr 0, .retAddr 0] [] (hp nS M) Q else am_Wp d 259 16 [.ref 205, .int x1, .int x2, .retAddr 0, .retAddr 0, .retAddr 0] [] (hp nS M) Q := by
  exact eq_if_eq (by with_unfolding_all rfl)
set_option maxRecDepth 20000 in
theorem b_259_16 {d nS : Nat} {x1 x2 : Int32} {M : am_M} {Q : Option Value → am_H → Prop} : am_Wp (d + 1) 259 16 [.ref 205, .int x1, .int x2, .retAddr 0, .retAddr 0, .retAddr 0] [] (hp nS M) Q = am_Wp d 171 0 [.ref 205, .int x2, .int 0, .int 1] [] (hp nS M) (fun v h1 => am_Wp (d + 1) 259 23 [.ref 205, .int x1, .int x2, .retAddr 0, .retAddr 0, .retAddr 0] (am_ans v []) h1 Q) := by
  refine (eq_run 4 (q := (20, [.ref 205, .int x1, .int x2, .retAddr 0, .retAddr 0, .retAddr 0], [.int 1, .int 0, .int x2, .ref 205], hp nS M)) (by with_unfolding_all rfl)).trans ?_
  exact eq_call2 (e := (.invokevirtual 144, 3, 0, 171, 275)) (as := [.ref 205, .int x2, .int 0, .int 1]) (r := []) (n := 4) (m := 4) (by with_unfolding_all rfl) rfl (by decide) (by with_unfolding_all rfl) (by decide) (by with_unfolding_all rfl) ⟨fun _ => am_rec_ok (c := 14) (by with_unfolding_all rfl) (by decide +kernel), fun z => by simp at z⟩
set_option maxRecDepth 20000 in
theorem b_259_23 {d nS : Nat} {x1 x2 s0 : Int32} {M : am_M} {Q : Option Value → am_H → Prop} : am_Wp d 259 23 [.ref 205, .int x1, .int x2, .retAddr 0, .retAddr 0, .retAddr 0] [.int s0] (hp nS M) Q = if ¬ s0 = 0 then am_Wp d 259 28 [.ref 205, .int x1, .int x2, .retAddr 0, .retAddr 0, .retAddr 0] [] (hp nS M) Q else am_Wp d 259 26 [.ref 205, .int x1, .int x2, .retAddr 0, .retAddr 0, .retAddr 0] [] (hp nS M) Q := by
  exact eq_if_ne (by with_unfolding_all rfl)
set_option maxRecDepth 20000 in
theorem b_259_26 {d nS : Nat} {x1 x2 : Int32} {M : am_M} {Q : Option Value → am_H → Prop} : am_Wp d 259 26 [.ref 205, .int x1, .int x2, .retAddr 0, .retAddr 0, .retAddr 0] [] (hp nS M) Q = Q (some (.int (-1))) (hp nS M) := by
  refine (eq_run 1 (q := (27, [.ref 205, .int x1, .int x2, .retAddr 0, .retAddr 0, .retAddr 0], [.int (-1)], hp nS M)) (by with_unfolding_all rfl)).trans ?_
  exact eq_retI2 (e := (.ireturn, 1, 0, 0, 0)) (t := .int) (by with_unfolding_all rfl) rfl (by with_unfolding_all rfl) rfl
set_option maxRecDepth 20000 in
theorem b_259_28 {d nS : Nat} {x1 x2 : Int32} {M : am_M} {Q : Option Value → am_H → Prop} : am_Wp d 259 28 [.ref 205, .int x1, .int x2, .retAddr 0, .retAddr 0, .retAddr 0] [] (hp nS M) Q = am_Wp d 259 36 [.ref 205, .int x1, .int x2, .int 0, .int (-1), .int 0] [] (hp nS M) Q := by
  exact eq_run 6 (q := (36, [.ref 205, .int x1, .int x2, .int 0, .int (-1), .int 0], [], hp nS M)) (by with_unfolding_all rfl)
set_option maxRecDepth 20000 in
theorem b_259_36 {d nS : Nat} {x1 x2 x3 x4 x5 : Int32} {M : am_M} {Q : Option Value → am_H → Prop} : am_Wp d 259 36 [.ref 205, .int x1, .int x2, .int x3, .int x4, .int x5] [] (hp nS M) Q = if (M 205 45) < (x5 + x1) then am_Wp d 259 79 [.ref 205, .int x1, .int x2, .int x3, .int x4, .int x5] [] (hp nS M) Q else am_Wp d 259 47 [.ref 205, .int x1, .int x2, .int x3, .int x4, .int x5] [] (hp nS M) Q := by
  refine (eq_run 5 (q := (44, [.ref 205, .int x1, .int x2, .int x3, .int x4, .int x5], [.int (M 205 45), .int (x5 + x1)], hp nS M)) (by with_unfolding_all rfl)).trans ?_
  exact eq_cmp_gt (by with_unfolding_all rfl)
set_option maxRecDepth 20000 in
theorem b_259_47 {d nS : Nat} {x1 x2 x3 x4 x5 : Int32} {M : am_M} {Q : Option Value → am_H → Prop} : am_Wp (d + 1) 259 47 [.ref 205, .int x1, .int x2, .int x3, .int x4, .int x5] [] (hp nS M) Q = am_Wp d 260 0 [.ref 205, .int x5, .int x1, .retAddr 0, .retAddr 0] [] (hp nS M) (fun v h1 => am_Wp (d + 1) 259 54 [.ref 205, .int x1, .int x2, .int x3, .int x4, .int x5] (am_ans v []) h1 Q) := by
  refine (eq_run 3 (q := (51, [.ref 205, .int x1, .int x2, .int x3, .int x4, .int x5], [.int x1, .int x5, .ref 205], hp nS M)) (by with_unfolding_all rfl)).trans ?_
  exact eq_call2 (e := (.invokevirtual 416, 3, 0, 260, 346)) (as := [.ref 205, .int x5, .int x1]) (r := []) (n := 3) (m := 5) (by with_unfolding_all rfl) rfl (by decide) (by with_unfolding_all rfl) (by decide) (by with_unfolding_all rfl) ⟨fun _ => am_rec_ok (c := 14) (by with_unfolding_all rfl) (by decide +kernel), fun z => by simp at z⟩
set_option maxRecDepth 20000 in
theorem b_259_54 {d nS : Nat} {x1 x2 x3 x4 x5 s0 : Int32} {M : am_M} {Q : Option Value → am_H → Prop} : am_Wp d 259 54 [.ref 205, .int x1, .int x2, .int x3, .int x4, .int x5] [.int s0] (hp nS M) Q = if x3 < s0 then am_Wp d 259 61 [.ref 205, .int x1, .int x2, .int x3, .int x4, .int x5] [] (hp nS M) Q else am_Wp d 259 58 [.ref 205, .int x1, .int x2, .int x3, .int x4, .int x5] [] (hp nS M) Q := by
  refine (eq_run 1 (q := (55, [.ref 205, .int x1, .int x2, .int x3, .int x4, .int x5], [.int x3, .int s0], hp nS M)) (by with_unfolding_all rfl)).trans ?_
  exact eq_cmp_gt (by with_unfolding_all rfl)
set_option maxRecDepth 20000 in
theorem b_259_58 {d nS : Nat} {x1 x2 x3 x4 x5 : Int32} {M : am_M} {Q : Option Value → am_H → Prop} : am_Wp d 259 58 [.ref 205, .int x1, .int x2, .int x3, .int x4, .int x5] [] (hp nS M) Q = am_Wp d 259 73 [.ref 205, .int x1, .int x2, .int x3, .int x4, .int x5] [] (hp nS M) Q := by
  exact eq_run 1 (q := (73, [.ref 205, .int x1, .int x2, .int x3, .int x4, .int x5], [], hp nS M)) (by with_unfolding_all rfl)
set_option maxRecDepth 20000 in
theorem b_259_61 {d nS : Nat} {x1 x2 x3 x4 x5 : Int32} {M : am_M} {Q : Option Value → am_H → Prop} : am_Wp (d + 1) 259 61 [.ref 205, .int x1, .int x2, .int x3, .int x4, .int x5] [] (hp nS M) Q = am_Wp d 260 0 [.ref 205, .int x5, .int x1, .retAddr 0, .retAddr 0] [] (hp nS M) (fun v h1 => am_Wp (d + 1) 259 68 [.ref 205, .int x1, .int x2, .int x3, .int x4, .int x5] (am_ans v []) h1 Q) := by
  refine (eq_run 3 (q := (65, [.ref 205, .int x1, .int x2, .int x3, .int x4, .int x5], [.int x1, .int x5, .ref 205], hp nS M)) (by with_unfolding_all rfl)).trans ?_
  exact eq_call2 (e := (.invokevirtual 416, 3, 0, 260, 346)) (as := [.ref 205, .int x5, .int x1]) (r := []) (n := 3) (m := 5) (by with_unfolding_all rfl) rfl (by decide) (by with_unfolding_all rfl) (by decide) (by with_unfolding_all rfl) ⟨fun _ => am_rec_ok (c := 14) (by with_unfolding_all rfl) (by decide +kernel), fun z => by simp at z⟩
set_option maxRecDepth 20000 in
theorem b_259_68 {d nS : Nat} {x1 x2 x3 x4 x5 s0 : Int32} {M : am_M} {Q : Option Value → am_H → Prop} : am_Wp d 259 68 [.ref 205, .int x1, .int x2, .int x3, .int x4, .int x5] [.int s0] (hp nS M) Q = am_Wp d 259 73 [.ref 205, .int x1, .int x2, .int s0, .int x5, .int x5] [] (hp nS M) Q := by
  exact eq_run 3 (q := (73, [.ref 205, .int x1, .int x2, .int s0, .int x5, .int x5], [], hp nS M)) (by with_unfolding_all rfl)
set_option maxRecDepth 20000 in
theorem b_259_73 {d nS : Nat} {x1 x2 x3 x4 x5 : Int32} {M : am_M} {Q : Option Value → am_H → Prop} : am_Wp d 259 73 [.ref 205, .int x1, .int x2, .int x3, .int x4, .int x5] [] (hp nS M) Q = am_Wp d 259 36 [.ref 205, .int x1, .int x2, .int x3, .int x4, .int (x5 + 1)] [] (hp nS M) Q := by
  exact eq_run 2 (q := (36, [.ref 205, .int x1, .int x2, .int x3, .int x4, .int (x5 + 1)], [], hp nS M)) (by with_unfolding_all rfl)
set_option maxRecDepth 20000 in
theorem b_259_79 {d nS : Nat} {x1 x2 x3 x4 x5 : Int32} {M : am_M} {Q : Option Value → am_H → Prop} : am_Wp d 259 79 [.ref 205, .int x1, .int x2, .int x3, .int x4, .int x5] [] (hp nS M) Q = if ¬ x2 = 0 then am_Wp d 259 87 [.ref 205, .int x1, .int x2, .int x3, .int x4, .int x5] [] (hp nS M) Q else am_Wp d 259 83 [.ref 205, .int x1, .int x2, .int x3, .int x4, .int x5] [] (hp nS M) Q := by
  refine (eq_run 1 (q := (80, [.ref 205, .int x1, .int x2, .int x3, .int x4, .int x5], [.int x2], hp nS M)) (by with_unfolding_all rfl)).trans ?_
  exact eq_if_ne (by with_unfolding_all rfl)
set_option maxRecDepth 20000 in
theorem b_259_83 {d nS : Nat} {x1 x2 x3 x4 x5 : Int32} {M : am_M} {Q : Option Value → am_H → Prop} : am_Wp d 259 83 [.ref 205, .int x1, .int x2, .int x3, .int x4, .int x5] [] (hp nS M) Q = am_Wp d 259 89 [.ref 205, .int x1, .int x2, .int x3, .int x4, .int x5] [.int x3] (hp nS M) Q := by
  exact eq_run 2 (q := (89, [.ref 205, .int x1, .int x2, .int x3, .int x4, .int x5], [.int x3], hp nS M)) (by with_unfolding_all rfl)
set_option maxRecDepth 20000 in
theorem b_259_87 {d nS : Nat} {x1 x2 x3 x4 x5 : Int32} {M : am_M} {Q : Option Value → am_H → Prop} : am_Wp d 259 87 [.ref 205, .int x1, .int x2, .int x3, .int x4, .int x5] [] (hp nS M) Q = am_Wp d 259 89 [.ref 205, .int x1, .int x2, .int x3, .int x4, .int x5] [.int x4] (hp nS M) Q := by
  exact eq_run 1 (q := (89, [.ref 205, .int x1, .int x2, .int x3, .int x4, .int x5], [.int x4], hp nS M)) (by with_unfolding_all rfl)
set_option maxRecDepth 20000 in
theorem b_259_89 {d nS : Nat} {x1 x2 x3 x4 x5 s0 : Int32} {M : am_M} {Q : Option Value → am_H → Prop} : am_Wp d 259 89 [.ref 205, .int x1, .int x2, .int x3, .int x4, .int x5] [.int s0] (hp nS M) Q = Q (some (.int s0)) (hp nS M) := by
  exact eq_retI2 (e := (.ireturn, 1, 0, 0, 0)) (t := .int) (by with_unfolding_all rfl) rfl (by with_unfolding_all rfl) rfl
-- sumFrom(II)I
set_option maxRecDepth 20000 in
theorem b_260_0 {d nS : Nat} {x1 x2 : Int32} {M : am_M} {Q : Option Value → am_H → Prop} : am_Wp d 260 0 [.ref 205, .int x1, .int x2, .retAddr 0, .retAddr 0] [] (hp nS M) Q = am_Wp d 260 5 [.ref 205, .int x1, .int x2, .int 0, .int x1] [] (hp nS M) Q := by
  exact eq_run 4 (q := (5, [.ref 205, .int x1, .int x2, .int 0, .int x1], [], hp nS M)) (by with_unfolding_all rfl)
set_option maxRecDepth 20000 in
theorem b_260_5 {d nS : Nat} {x1 x2 x3 x4 : Int32} {M : am_M} {Q : Option Value → am_H → Prop} : am_Wp d 260 5 [.ref 205, .int x1, .int x2, .int x3, .int x4] [] (hp nS M) Q = if (x1 + x2) ≤ x4 then am_Wp d 260 29 [.ref 205, .int x1, .int x2, .int x3, .int x4] [] (hp nS M) Q else am_Wp d 260 13 [.ref 205, .int x1, .int x2, .int x3, .int x4] [] (hp nS M) Q := by
  refine (eq_run 4 (q := (10, [.ref 205, .int x1, .int x2, .int x3, .int x4], [.int (x1 + x2), .int x4], hp nS M)) (by with_unfolding_all rfl)).trans ?_
  exact eq_cmp_ge (by with_unfolding_all rfl)
set_option maxRecDepth 20000 in
theorem b_260_13 {d nS : Nat} {x1 x2 x3 x4 : Int32} {M : am_M} {Q : Option Value → am_H → Prop} (h1 : vp_in x4 14) : am_Wp d 260 13 [.ref 205, .int x1, .int x2, .int x3, .int x4] [] (hp nS M) Q = am_Wp d 260 5 [.ref 205, .int x1, .int x2, .int (x3 + (M 227 x4.toNatClampNeg)), .int (x4 + 1)] [] (hp nS M) Q := by
  refine (eq_run 4 (q := (20, [.ref 205, .int x1, .int x2, .int x3, .int x4], [.int x4, .ref 227, .int x3], hp nS M)) (by with_unfolding_all rfl)).trans ?_
  refine (eq_ald (e := (.iaload, 1, 0, 0, 0)) (by with_unfolding_all rfl) rfl (n := 14) (by with_unfolding_all rfl) h1).trans ?_
  exact eq_run 4 (q := (5, [.ref 205, .int x1, .int x2, .int (x3 + (M 227 x4.toNatClampNeg)), .int (x4 + 1)], [], hp nS M)) (by with_unfolding_all rfl)
set_option maxRecDepth 20000 in
theorem b_260_29 {d nS : Nat} {x1 x2 x3 x4 : Int32} {M : am_M} {Q : Option Value → am_H → Prop} : am_Wp d 260 29 [.ref 205, .int x1, .int x2, .int x3, .int x4] [] (hp nS M) Q = Q (some (.int x3)) (hp nS M) := by
  refine (eq_run 1 (q := (30, [.ref 205, .int x1, .int x2, .int x3, .int x4], [.int x3], hp nS M)) (by with_unfolding_all rfl)).trans ?_
  exact eq_retI2 (e := (.ireturn, 1, 0, 0, 0)) (t := .int) (by with_unfolding_all rfl) rfl (by with_unfolding_all rfl) rfl
-- row(I)I
set_option maxRecDepth 20000 in
theorem b_261_0 {d nS : Nat} {x1 : Int32} {M : am_M} {Q : Option Value → am_H → Prop} : am_Wp (d + 1) 261 0 [.ref 205, .int x1, .retAddr 0, .retAddr 0, .retAddr 0, .retAddr 0, .retAddr 0, .retAddr 0, .retAddr 0, .retAddr 0] [] (hp nS M) Q = am_Wp d 171 0 [.ref 205, .int x1, .int 0, .int 4] [] (hp nS (am_up M 205 0 0)) (fun v h1 => am_Wp (d + 1) 261 12 [.ref 205, .int x1, .retAddr 0, .retAddr 0, .retAddr 0, .retAddr 0, .retAddr 0, .retAddr 0, .retAddr 0, .retAddr 0] (am_ans v []) h1 Q) := by
  refine (eq_run 7 (q := (9, [.ref 205, .int x1, .retAddr 0, .retAddr 0, .retAddr 0, .retAddr 0, .retAddr 0, .retAddr 0, .retAddr 0, .retAddr 0], [.int 4, .int 0, .int x1, .ref 205], hp nS (am_up M 205 0 0))) (by with_unfolding_all rfl)).trans ?_
  exact eq_call2 (e := (.invokevirtual 144, 3, 0, 171, 275)) (as := [.ref 205, .int x1, .int 0, .int 4]) (r := []) (n := 4) (m := 4) (by with_unfolding_all rfl) rfl (by decide) (by with_unfolding_all rfl) (by decide) (by with_unfolding_all rfl) ⟨fun _ => am_rec_ok (c := 14) (by with_unfolding_all rfl) (by decide +kernel), fun z => by simp at z⟩
set_option maxRecDepth 20000 in
theorem b_261_12 {d nS : Nat} {x1 s0 : Int32} {M : am_M} {Q : Option Value → am_H → Prop} : am_Wp d 261 12 [.ref 205, .int x1, .retAddr 0, .retAddr 0, .retAddr 0, .retAddr 0, .retAddr 0, .retAddr 0, .retAddr 0, .retAddr 0] [.int s0] (hp nS M) Q = if ¬ s0 = 0 then am_Wp d 261 17 [.ref 205, .int x1, .retAddr 0, .retAddr 0, .retAddr 0, .retAddr 0, .retAddr 0, .retAddr 0, .retAddr 0, .retAddr 0] [] (hp nS M) Q else am_Wp d 261 15 [.ref 205, .int x1, .retAddr 0, .retAddr 0, .retAddr 0, .retAddr 0, .retAddr 0, .retAddr 0, .retAddr 0, .retAddr 0] [] (hp nS M) Q := by
  exact eq_if_ne (by with_unfolding_all rfl)
set_option maxRecDepth 20000 in
theorem b_261_15 {d nS : Nat} {x1 : Int32} {M : am_M} {Q : Option Value → am_H → Prop} : am_Wp d 261 15 [.ref 205, .int x1, .retAddr 0, .retAddr 0, .retAddr 0, .retAddr 0, .retAddr 0, .retAddr 0, .retAddr 0, .retAddr 0] [] (hp nS M) Q = Q (some (.int (-1))) (hp nS M) := by
  refine (eq_run 1 (q := (16, [.ref 205, .int x1, .retAddr 0, .retAddr 0, .retAddr 0, .retAddr 0, .retAddr 0, .retAddr 0, .retAddr 0, .retAddr 0], [.int (-1)], hp nS M)) (by with_unfolding_all rfl)).trans ?_
  exact eq_retI2 (e := (.ireturn, 1, 0, 0, 0)) (t := .int) (by with_unfolding_all rfl) rfl (by with_unfolding_all rfl) rfl
set_option maxRecDepth 20000 in
theorem b_261_17 {d nS : Nat} {x1 : Int32} {M : am_M} {Q : Option Value → am_H → Prop} : am_Wp d 261 17 [.ref 205, .int x1, .retAddr 0, .retAddr 0, .retAddr 0, .retAddr 0, .retAddr 0, .retAddr 0, .retAddr 0, .retAddr 0] [] (hp nS M) Q = if ¬ x1 = 0 then am_Wp d 261 26 [.ref 205, .int x1, .retAddr 0, .retAddr 0, .retAddr 0, .retAddr 0, .retAddr 0, .retAddr 0, .retAddr 0, .retAddr 0] [] (hp nS M) Q else am_Wp d 261 21 [.ref 205, .int x1, .retAddr 0, .retAddr 0, .retAddr 0, .retAddr 0, .retAddr 0, .retAddr 0, .retAddr 0, .retAddr 0] [] (hp nS M) Q := by
  refine (eq_run 1 (q := (18, [.ref 205, .int x1, .retAddr 0, .retAddr 0, .retAddr 0, .retAddr 0, .retAddr 0, .retAddr 0, .retAddr 0, .retAddr 0], [.int x1], hp nS M)) (by with_unfolding_all rfl)).trans ?_
  exact eq_if_ne (by with_unfolding_all rfl)
set_option maxRecDepth 20000 in
theorem b_261_21 {d nS : Nat} {x1 : Int32} {M : am_M} {Q : Option Value → am_H → Prop} : am_Wp (d + 1) 261 21 [.ref 205, .int x1, .retAddr 0, .retAddr 0, .retAddr 0, .retAddr 0, .retAddr 0, .retAddr 0, .retAddr 0, .retAddr 0] [] (hp nS M) Q = am_Wp d 262 0 [.ref 205, .retAddr 0, .retAddr 0, .retAddr 0] [] (hp nS M) (fun v h1 => am_Wp (d + 1) 261 25 [.ref 205, .int x1, .retAddr 0, .retAddr 0, .retAddr 0, .retAddr 0, .retAddr 0, .retAddr 0, .retAddr 0, .retAddr 0] (am_ans v []) h1 Q) := by
  refine (eq_run 1 (q := (22, [.ref 205, .int x1, .retAddr 0, .retAddr 0, .retAddr 0, .retAddr 0, .retAddr 0, .retAddr 0, .retAddr 0, .retAddr 0], [.ref 205], hp nS M)) (by with_unfolding_all rfl)).trans ?_
  exact eq_call2 (e := (.invokevirtual 419, 3, 0, 262, 347)) (as := [.ref 205]) (r := []) (n := 1) (m := 4) (by with_unfolding_all rfl) rfl (by decide) (by with_unfolding_all rfl) (by decide) (by with_unfolding_all rfl) ⟨fun _ => am_rec_ok (c := 14) (by with_unfolding_all rfl) (by decide +kernel), fun z => by simp at z⟩
set_option maxRecDepth 20000 in
theorem b_261_25 {d nS : Nat} {x1 s0 : Int32} {M : am_M} {Q : Option Value → am_H → Prop} : am_Wp d 261 25 [.ref 205, .int x1, .retAddr 0, .retAddr 0, .retAddr 0, .retAddr 0, .retAddr 0, .retAddr 0, .retAddr 0, .retAddr 0] [.int s0] (hp nS M) Q = Q (some (.int s0)) (hp nS M) := by
  exact eq_retI2 (e := (.ireturn, 1, 0, 0, 0)) (t := .int) (by with_unfolding_all rfl) rfl (by with_unfolding_all rfl) rfl
set_option maxRecDepth 20000 in
theorem b_261_26 {d nS : Nat} {x1 : Int32} {M : am_M} {Q : Option Value → am_H → Prop} : am_Wp d 261 26 [.ref 205, .int x1, .retAddr 0, .retAddr 0, .retAddr 0, .retAddr 0, .retAddr 0, .retAddr 0, .retAddr 0, .retAddr 0] [] (hp nS M) Q = am_Wp d 261 42 [.ref 205, .int x1, .int 0, .int 0, .int 0, .int 0, .int 0, .int 0, .retAddr 0, .retAddr 0] [] (hp nS M) Q := by
  exact eq_run 12 (q := (42, [.ref 205, .int x1, .int 0, .int 0, .int 0, .int 0, .int 0, .int 0, .retAddr 0, .retAddr 0], [], hp nS M)) (by with_unfolding_all rfl)
set_option maxRecDepth 20000 in
theorem b_261_42 {d nS : Nat} {x1 x2 x3 x4 x5 x6 x7 : Int32} {zx8 zx9 : Value} {M : am_M} {Q : Option Value → am_H → Prop} : am_Wp d 261 42 [.ref 205, .int x1, .int x2, .int x3, .int x4, .int x5, .int x6, .int x7, zx8, zx9] [] (hp nS M) Q = if (M 205 45) ≤ x7 then am_Wp d 261 200 [.ref 205, .int x1, .int x2, .int x3, .int x4, .int x5, .int x6, .int x7, zx8, zx9] [] (hp nS M) Q else am_Wp d 261 51 [.ref 205, .int x1, .int x2, .int x3, .int x4, .int x5, .int x6, .int x7, zx8, zx9] [] (hp nS M) Q := by
  refine (eq_run 3 (q := (48, [.ref 205, .int x1, .int x2, .int x3, .int x4, .int x5, .int x6, .int x7, zx8, zx9], [.int (M 205 45), .int x7], hp nS M)) (by with_unfolding_all rfl)).trans ?_
  exact eq_cmp_ge (by with_unfolding_all rfl)
set_option maxRecDepth 20000 in
theorem b_261_51 {d nS : Nat} {x1 x2 x3 x4 x5 x6 x7 : Int32} {zx8 zx9 : Value} {M : am_M} {Q : Option Value → am_H → Prop} : am_Wp d 261 51 [.ref 205, .int x1, .int x2, .int x3, .int x4, .int x5, .int x6, .int x7, zx8, zx9] [] (hp nS M) Q = am_Wp d 261 57 [.ref 205, .int x1, .int x2, .int x3, .int x4, .int x5, .int x6, .int x7, .int 1, .int 0] [] (hp nS M) Q := by
  exact eq_run 4 (q := (57, [.ref 205, .int x1, .int x2, .int x3, .int x4, .int x5, .int x6, .int x7, .int 1, .int 0], [], hp nS M)) (by with_unfolding_all rfl)
set_option maxRecDepth 20000 in
theorem b_261_57 {d nS : Nat} {x1 x2 x3 x4 x5 x6 x7 x8 x9 : Int32} {M : am_M} {Q : Option Value → am_H → Prop} : am_Wp d 261 57 [.ref 205, .int x1, .int x2, .int x3, .int x4, .int x5, .int x6, .int x7, .int x8, .int x9] [] (hp nS M) Q = if x7 ≤ x9 then am_Wp d 261 111 [.ref 205, .int x1, .int x2, .int x3, .int x4, .int x5, .int x6, .int x7, .int x8, .int x9] [] (hp nS M) Q else am_Wp d 261 64 [.ref 205, .int x1, .int x2, .int x3, .int x4, .int x5, .int x6, .int x7, .int x8, .int x9] [] (hp nS M) Q := by
  refine (eq_run 2 (q := (61, [.ref 205, .int x1, .int x2, .int x3, .int x4, .int x5, .int x6, .int x7, .int x8, .int x9], [.int x7, .int x9], hp nS M)) (by with_unfolding_all rfl)).trans ?_
  exact eq_cmp_ge (by with_unfolding_all rfl)
set_option maxRecDepth 20000 in
theorem b_261_64 {d nS : Nat} {x1 x2 x3 x4 x5 x6 x7 x8 x9 : Int32} {M : am_M} {Q : Option Value → am_H → Prop} (h1 : vp_in x9 14) (h2 : vp_in x7 14) : am_Wp d 261 64 [.ref 205, .int x1, .int x2, .int x3, .int x4, .int x5, .int x6, .int x7, .int x8, .int x9] [] (hp nS M) Q = if (M 227 x9.toNatClampNeg) ≤ (M 227 x7.toNatClampNeg) then am_Wp d 261 85 [.ref 205, .int x1, .int x2, .int x3, .int x4, .int x5, .int x6, .int x7, .int x8, .int x9] [] (hp nS M) Q else am_Wp d 261 81 [.ref 205, .int x1, .int x2, .int x3, .int x4, .int x5, .int x6, .int x7, .int x8, .int x9] [] (hp nS M) Q := by
  refine (eq_run 3 (q := (70, [.ref 205, .int x1, .int x2, .int x3, .int x4, .int x5, .int x6, .int x7, .int x8, .int x9], [.int x9, .ref 227], hp nS M)) (by with_unfolding_all rfl)).trans ?_
  refine (eq_ald (e := (.iaload, 1, 0, 0, 0)) (by with_unfolding_all rfl) rfl (n := 14) (by with_unfolding_all rfl) h1).trans ?_
  refine (eq_run 3 (q := (77, [.ref 205, .int x1, .int x2, .int x3, .int x4, .int x5, .int x6, .int x7, .int x8, .int x9], [.int x7, .ref 227, .int (M 227 x9.toNatClampNeg)], hp nS M)) (by with_unfolding_all rfl)).trans ?_
  refine (eq_ald (e := (.iaload, 1, 0, 0, 0)) (by with_unfolding_all rfl) rfl (n := 14) (by with_unfolding_all rfl) h2).trans ?_
  exact eq_cmp_le (by with_unfolding_all rfl)
set_option maxRecDepth 20000 in
theorem b_261_81 {d nS : Nat} {x1 x2 x3 x4 x5 x6 x7 x8 x9 : Int32} {M : am_M} {Q : Option Value → am_H → Prop} : am_Wp d 261 81 [.ref 205, .int x1, .int x2, .int x3, .int x4, .int x5, .int x6, .int x7, .int x8, .int x9] [] (hp nS M) Q = am_Wp d 261 85 [.ref 205, .int x1, .int (x2 + 1), .int x3, .int x4, .int x5, .int x6, .int x7, .int x8, .int x9] [] (hp nS M) Q := by
  exact eq_run 4 (q := (85, [.ref 205, .int x1, .int (x2 + 1), .int x3, .int x4, .int x5, .int x6, .int x7, .int x8, .int x9], [], hp nS M)) (by with_unfolding_all rfl)
set_option maxRecDepth 20000 in
theorem b_261_85 {d nS : Nat} {x1 x2 x3 x4 x5 x6 x7 x8 x9 : Int32} {M : am_M} {Q : Option Value → am_H → Prop} (h1 : vp_in x9 14) (h2 : vp_in x7 14) : am_Wp d 261 85 [.ref 205, .int x1, .int x2, .int x3, .int x4, .int x5, .int x6, .int x7, .int x8, .int x9] [] (hp nS M) Q = if (M 227 x9.toNatClampNeg) < (M 227 x7.toNatClampNeg) then am_Wp d 261 105 [.ref 205, .int x1, .int x2, .int x3, .int x4, .int x5, .int x6, .int x7, .int x8, .int x9] [] (hp nS M) Q else am_Wp d 261 102 [.ref 205, .int x1, .int x2, .int x3, .int x4, .int x5, .int x6, .int x7, .int x8, .int x9] [] (hp nS M) Q := by
  refine (eq_run 3 (q := (91, [.ref 205, .int x1, .int x2, .int x3, .int x4, .int x5, .int x6, .int x7, .int x8, .int x9], [.int x9, .ref 227], hp nS M)) (by with_unfolding_all rfl)).trans ?_
  refine (eq_ald (e := (.iaload, 1, 0, 0, 0)) (by with_unfolding_all rfl) rfl (n := 14) (by with_unfolding_all rfl) h1).trans ?_
  refine (eq_run 3 (q := (98, [.ref 205, .int x1, .int x2, .int x3, .int x4, .int x5, .int x6, .int x7, .int x8, .int x9], [.int x7, .ref 227, .int (M 227 x9.toNatClampNeg)], hp nS M)) (by with_unfolding_all rfl)).trans ?_
  refine (eq_ald (e := (.iaload, 1, 0, 0, 0)) (by with_unfolding_all rfl) rfl (n := 14) (by with_unfolding_all rfl) h2).trans ?_
  exact eq_cmp_lt (by with_unfolding_all rfl)
set_option maxRecDepth 20000 in
theorem b_261_102 {d nS : Nat} {x1 x2 x3 x4 x5 x6 x7 x8 x9 : Int32} {M : am_M} {Q : Option Value → am_H → Prop} : am_Wp d 261 102 [.ref 205, .int x1, .int x2, .int x3, .int x4, .int x5, .int x6, .int x7, .int x8, .int x9] [] (hp nS M) Q = am_Wp d 261 105 [.ref 205, .int x1, .int x2, .int x3, .int x4, .int x5, .int x6, .int x7, .int 0, .int x9] [] (hp nS M) Q := by
  exact eq_run 2 (q := (105, [.ref 205, .int x1, .int x2, .int x3, .int x4, .int x5, .int x6, .int x7, .int 0, .int x9], [], hp nS M)) (by with_unfolding_all rfl)
set_option maxRecDepth 20000 in
theorem b_261_105 {d nS : Nat} {x1 x2 x3 x4 x5 x6 x7 x8 x9 : Int32} {M : am_M} {Q : Option Value → am_H → Prop} : am_Wp d 261 105 [.ref 205, .int x1, .int x2, .int x3, .int x4, .int x5, .int x6, .int x7, .int x8, .int x9] [] (hp nS M) Q = am_Wp d 261 57 [.ref 205, .int x1, .int x2, .int x3, .int x4, .int x5, .int x6, .int x7, .int x8, .int (x9 + 1)] [] (hp nS M) Q := by
  exact eq_run 2 (q := (57, [.ref 205, .int x1, .int x2, .int x3, .int x4, .int x5, .int x6, .int x7, .int x8, .int (x9 + 1)], [], hp nS M)) (by with_unfolding_all rfl)
set_option maxRecDepth 20000 in
theorem b_261_111 {d nS : Nat} {x1 x2 x3 x4 x5 x6 x7 x8 x9 : Int32} {M : am_M} {Q : Option Value → am_H → Prop} : am_Wp d 261 111 [.ref 205, .int x1, .int x2, .int x3, .int x4, .int x5, .int x6, .int x7, .int x8, .int x9] [] (hp nS M) Q = if x8 = 0 then am_Wp d 261 120 [.ref 205, .int x1, .int x2, .int x3, .int x4, .int x5, .int x6, .int x7, .int x8, .int x9] [] (hp nS M) Q else am_Wp d 261 116 [.ref 205, .int x1, .int x2, .int x3, .int x4, .int x5, .int x6, .int x7, .int x8, .int x9] [] (hp nS M) Q := by
  refine (eq_run 1 (q := (113, [.ref 205, .int x1, .int x2, .int x3, .int x4, .int x5, .int x6, .int x7, .int x8, .int x9], [.int x8], hp nS M)) (by with_unfolding_all rfl)).trans ?_
  exact eq_if_eq (by with_unfolding_all rfl)
set_option maxRecDepth 20000 in
theorem b_261_116 {d nS : Nat} {x1 x2 x3 x4 x5 x6 x7 x8 x9 : Int32} {M : am_M} {Q : Option Value → am_H → Prop} : am_Wp d 261 116 [.ref 205, .int x1, .int x2, .int x3, .int x4, .int x5, .int x6, .int x7, .int x8, .int x9] [] (hp nS M) Q = am_Wp d 261 120 [.ref 205, .int x1, .int x2, .int (x3 + 1), .int x4, .int x5, .int x6, .int x7, .int x8, .int x9] [] (hp nS M) Q := by
  exact eq_run 4 (q := (120, [.ref 205, .int x1, .int x2, .int (x3 + 1), .int x4, .int x5, .int x6, .int x7, .int x8, .int x9], [], hp nS M)) (by with_unfolding_all rfl)
set_option maxRecDepth 20000 in
theorem b_261_120 {d nS : Nat} {x1 x2 x3 x4 x5 x6 x7 x8 x9 : Int32} {M : am_M} {Q : Option Value → am_H → Prop} : am_Wp d 261 120 [.ref 205, .int x1, .int x2, .int x3, .int x4, .int x5, .int x6, .int x7, .int x8, .int x9] [] (hp nS M) Q = if x7 ≤ 0 then am_Wp d 261 150 [.ref 205, .int x1, .int x2, .int x3, .int x4, .int x5, .int x6, .int x7, .int x8, .int x9] [] (hp nS M) Q else am_Wp d 261 125 [.ref 205, .int x1, .int x2, .int x3, .int x4, .int x5, .int x6, .int x7, .int x8, .int x9] [] (hp nS M) Q := by
  refine (eq_run 1 (q := (122, [.ref 205, .int x1, .int x2, .int x3, .int x4, .int x5, .int x6, .int x7, .int x8, .int x9], [.int x7], hp nS M)) (by with_unfolding_all rfl)).trans ?_
  exact eq_if_le (by with_unfolding_all rfl)
set_option maxRecDepth 20000 in
theorem b_261_125 {d nS : Nat} {x1 x2 x3 x4 x5 x6 x7 x8 x9 : Int32} {M : am_M} {Q : Option Value → am_H → Prop} (h1 : vp_in x7 14) (h2 : vp_in (x7 - 1) 14) : am_Wp (d + 1) 261 125 [.ref 205, .int x1, .int x2, .int x3, .int x4, .int x5, .int x6, .int x7, .int x8, .int x9] [] (hp nS M) Q = am_Wp d 263 0 [.ref 205, .int (M 227 x7.toNatClampNeg), .int (M 227 (x7 - 1).toNatClampNeg)] [] (hp nS M) (fun v h1 => am_Wp (d + 1) 261 147 [.ref 205, .int x1, .int x2, .int x3, .int x4, .int x5, .int x6, .int x7, .int x8, .int x9] (am_ans v [.int x4]) h1 Q) := by
  refine (eq_run 5 (q := (134, [.ref 205, .int x1, .int x2, .int x3, .int x4, .int x5, .int x6, .int x7, .int x8, .int x9], [.int x7, .ref 227, .ref 205, .int x4], hp nS M)) (by with_unfolding_all rfl)).trans ?_
  refine (eq_ald (e := (.iaload, 1, 0, 0, 0)) (by with_unfolding_all rfl) rfl (n := 14) (by with_unfolding_all rfl) h1).trans ?_
  refine (eq_run 5 (q := (143, [.ref 205, .int x1, .int x2, .int x3, .int x4, .int x5, .int x6, .int x7, .int x8, .int x9], [.int (x7 - 1), .ref 227, .int (M 227 x7.toNatClampNeg), .ref 205, .int x4], hp nS M)) (by with_unfolding_all rfl)).trans ?_
  refine (eq_ald (e := (.iaload, 1, 0, 0, 0)) (by with_unfolding_all rfl) rfl (n := 14) (by with_unfolding_all rfl) h2).trans ?_
  exact eq_call2 (e := (.invokevirtual 422, 3, 0, 263, 348)) (as := [.ref 205, .int (M 227 x7.toNatClampNeg), .int (M 227 (x7 - 1).toNatClampNeg)]) (r := [.int x4]) (n := 3) (m := 3) (by with_unfolding_all rfl) rfl (by decide) (by with_unfolding_all rfl) (by decide) (by with_unfolding_all rfl) ⟨fun _ => am_rec_ok (c := 14) (by with_unfolding_all rfl) (by decide +kernel), fun z => by simp at z⟩
set_option maxRecDepth 20000 in
theorem b_261_147 {d nS : Nat} {x1 x2 x3 x4 x5 x6 x7 x8 x9 s0 s1 : Int32} {M : am_M} {Q : Option Value → am_H → Prop} : am_Wp d 261 147 [.ref 205, .int x1, .int x2, .int x3, .int x4, .int x5, .int x6, .int x7, .int x8, .int x9] [.int s1, .int s0] (hp nS M) Q = am_Wp d 261 150 [.ref 205, .int x1, .int x2, .int x3, .int (s0 + s1), .int x5, .int x6, .int x7, .int x8, .int x9] [] (hp nS M) Q := by
  exact eq_run 2 (q := (150, [.ref 205, .int x1, .int x2, .int x3, .int (s0 + s1), .int x5, .int x6, .int x7, .int x8, .int x9], [], hp nS M)) (by with_unfolding_all rfl)
set_option maxRecDepth 20000 in
theorem b_261_150 {d nS : Nat} {x1 x2 x3 x4 x5 x6 x7 x8 x9 : Int32} {M : am_M} {Q : Option Value → am_H → Prop} : am_Wp d 261 150 [.ref 205, .int x1, .int x2, .int x3, .int x4, .int x5, .int x6, .int x7, .int x8, .int x9] [] (hp nS M) Q = if x7 ≤ 0 then am_Wp d 261 181 [.ref 205, .int x1, .int x2, .int x3, .int x4, .int x5, .int x6, .int x7, .int x8, .int x9] [] (hp nS M) Q else am_Wp d 261 155 [.ref 205, .int x1, .int x2, .int x3, .int x4, .int x5, .int x6, .int x7, .int x8, .int x9] [] (hp nS M) Q := by
  refine (eq_run 1 (q := (152, [.ref 205, .int x1, .int x2, .int x3, .int x4, .int x5, .int x6, .int x7, .int x8, .int x9], [.int x7], hp nS M)) (by with_unfolding_all rfl)).trans ?_
  exact eq_if_le (by with_unfolding_all rfl)
set_option maxRecDepth 20000 in
theorem b_261_155 {d nS : Nat} {x1 x2 x3 x4 x5 x6 x7 x8 x9 : Int32} {M : am_M} {Q : Option Value → am_H → Prop} (h1 : vp_in x7 14) (h2 : vp_in (x7 - 1) 14) : am_Wp d 261 155 [.ref 205, .int x1, .int x2, .int x3, .int x4, .int x5, .int x6, .int x7, .int x8, .int x9] [] (hp nS M) Q = if (M 227 x7.toNatClampNeg) ≤ (M 227 (x7 - 1).toNatClampNeg) then am_Wp d 261 181 [.ref 205, .int x1, .int x2, .int x3, .int x4, .int x5, .int x6, .int x7, .int x8, .int x9] [] (hp nS M) Q else am_Wp d 261 174 [.ref 205, .int x1, .int x2, .int x3, .int x4, .int x5, .int x6, .int x7, .int x8, .int x9] [] (hp nS M) Q := by
  refine (eq_run 3 (q := (161, [.ref 205, .int x1, .int x2, .int x3, .int x4, .int x5, .int x6, .int x7, .int x8, .int x9], [.int x7, .ref 227], hp nS M)) (by with_unfolding_all rfl)).trans ?_
  refine (eq_ald (e := (.iaload, 1, 0, 0, 0)) (by with_unfolding_all rfl) rfl (n := 14) (by with_unfolding_all rfl) h1).trans ?_
  refine (eq_run 5 (q := (170, [.ref 205, .int x1, .int x2, .int x3, .int x4, .int x5, .int x6, .int x7, .int x8, .int x9], [.int (x7 - 1), .ref 227, .int (M 227 x7.toNatClampNeg)], hp nS M)) (by with_unfolding_all rfl)).trans ?_
  refine (eq_ald (e := (.iaload, 1, 0, 0, 0)) (by with_unfolding_all rfl) rfl (n := 14) (by with_unfolding_all rfl) h2).trans ?_
  exact eq_cmp_le (by with_unfolding_all rfl)
set_option maxRecDepth 20000 in
theorem b_261_174 {d nS : Nat} {x1 x2 x3 x4 x5 x6 x7 x8 x9 : Int32} {M : am_M} {Q : Option Value → am_H → Prop} : am_Wp d 261 174 [.ref 205, .int x1, .int x2, .int x3, .int x4, .int x5, .int x6, .int x7, .int x8, .int x9] [] (hp nS M) Q = am_Wp d 261 182 [.ref 205, .int x1, .int x2, .int x3, .int x4, .int x5, .int x6, .int x7, .int x8, .int x9] [.int (x6 + 1)] (hp nS M) Q := by
  exact eq_run 4 (q := (182, [.ref 205, .int x1, .int x2, .int x3, .int x4, .int x5, .int x6, .int x7, .int x8, .int x9], [.int (x6 + 1)], hp nS M)) (by with_unfolding_all rfl)
set_option maxRecDepth 20000 in
theorem b_261_181 {d nS : Nat} {x1 x2 x3 x4 x5 x6 x7 x8 x9 : Int32} {M : am_M} {Q : Option Value → am_H → Prop} : am_Wp d 261 181 [.ref 205, .int x1, .int x2, .int x3, .int x4, .int x5, .int x6, .int x7, .int x8, .int x9] [] (hp nS M) Q = am_Wp d 261 182 [.ref 205, .int x1, .int x2, .int x3, .int x4, .int x5, .int x6, .int x7, .int x8, .int x9] [.int 1] (hp nS M) Q := by
  exact eq_run 1 (q := (182, [.ref 205, .int x1, .int x2, .int x3, .int x4, .int x5, .int x6, .int x7, .int x8, .int x9], [.int 1], hp nS M)) (by with_unfolding_all rfl)
set_option maxRecDepth 20000 in
theorem b_261_182 {d nS : Nat} {x1 x2 x3 x4 x5 x6 x7 x8 x9 s0 : Int32} {M : am_M} {Q : Option Value → am_H → Prop} : am_Wp (d + 1) 261 182 [.ref 205, .int x1, .int x2, .int x3, .int x4, .int x5, .int x6, .int x7, .int x8, .int x9] [.int s0] (hp nS M) Q = am_Wp d 239 0 [.ref 205, .int x5, .int s0] [] (hp nS M) (fun v h1 => am_Wp (d + 1) 261 192 [.ref 205, .int x1, .int x2, .int x3, .int x4, .int x5, .int s0, .int x7, .int x8, .int x9] (am_ans v []) h1 Q) := by
  refine (eq_run 4 (q := (189, [.ref 205, .int x1, .int x2, .int x3, .int x4, .int x5, .int s0, .int x7, .int x8, .int x9], [.int s0, .int x5, .ref 205], hp nS M)) (by with_unfolding_all rfl)).trans ?_
  exact eq_call2 (e := (.invokevirtual 370, 3, 0, 239, 332)) (as := [.ref 205, .int x5, .int s0]) (r := []) (n := 3) (m := 3) (by with_unfolding_all rfl) rfl (by decide) (by with_unfolding_all rfl) (by decide) (by with_unfolding_all rfl) ⟨fun _ => am_rec_ok (c := 14) (by with_unfolding_all rfl) (by decide +kernel), fun z => by simp at z⟩
set_option maxRecDepth 20000 in
theorem b_261_192 {d nS : Nat} {x1 x2 x3 x4 x5 x6 x7 x8 x9 s0 : Int32} {M : am_M} {Q : Option Value → am_H → Prop} : am_Wp d 261 192 [.ref 205, .int x1, .int x2, .int x3, .int x4, .int x5, .int x6, .int x7, .int x8, .int x9] [.int s0] (hp nS M) Q = am_Wp d 261 42 [.ref 205, .int x1, .int x2, .int x3, .int x4, .int s0, .int x6, .int (x7 + 1), .int x8, .int x9] [] (hp nS M) Q := by
  exact eq_run 3 (q := (42, [.ref 205, .int x1, .int x2, .int x3, .int x4, .int s0, .int x6, .int (x7 + 1), .int x8, .int x9], [], hp nS M)) (by with_unfolding_all rfl)
set_option maxRecDepth 20000 in
theorem b_261_200 {d nS : Nat} {x1 x2 x3 x4 x5 x6 x7 : Int32} {zx8 zx9 : Value} {M : am_M} {Q : Option Value → am_H → Prop} : am_Wp d 261 200 [.ref 205, .int x1, .int x2, .int x3, .int x4, .int x5, .int x6, .int x7, zx8, zx9] [] (hp nS M) Q = if ¬ x1 = 1 then am_Wp d 261 209 [.ref 205, .int x1, .int x2, .int x3, .int x4, .int x5, .int x6, .int x7, zx8, zx9] [] (hp nS M) Q else am_Wp d 261 205 [.ref 205, .int x1, .int x2, .int x3, .int x4, .int x5, .int x6, .int x7, zx8, zx9] [] (hp nS M) Q := by
  refine (eq_run 2 (q := (202, [.ref 205, .int x1, .int x2, .int x3, .int x4, .int x5, .int x6, .int x7, zx8, zx9], [.int 1, .int x1], hp nS M)) (by with_unfolding_all rfl)).trans ?_
  exact eq_cmp_ne (by with_unfolding_all rfl)
set_option maxRecDepth 20000 in
theorem b_261_205 {d nS : Nat} {x1 x2 x3 x4 x5 x6 x7 : Int32} {zx8 zx9 : Value} {M : am_M} {Q : Option Value → am_H → Prop} : am_Wp d 261 205 [.ref 205, .int x1, .int x2, .int x3, .int x4, .int x5, .int x6, .int x7, zx8, zx9] [] (hp nS M) Q = am_Wp d 261 230 [.ref 205, .int x1, .int x2, .int x3, .int x4, .int x5, .int x6, .int x7, zx8, zx9] [.int x2] (hp nS M) Q := by
  exact eq_run 2 (q := (230, [.ref 205, .int x1, .int x2, .int x3, .int x4, .int x5, .int x6, .int x7, zx8, zx9], [.int x2], hp nS M)) (by with_unfolding_all rfl)
set_option maxRecDepth 20000 in
theorem b_261_209 {d nS : Nat} {x1 x2 x3 x4 x5 x6 x7 : Int32} {zx8 zx9 : Value} {M : am_M} {Q : Option Value → am_H → Prop} : am_Wp d 261 209 [.ref 205, .int x1, .int x2, .int x3, .int x4, .int x5, .int x6, .int x7, zx8, zx9] [] (hp nS M) Q = if ¬ x1 = 2 then am_Wp d 261 218 [.ref 205, .int x1, .int x2, .int x3, .int x4, .int x5, .int x6, .int x7, zx8, zx9] [] (hp nS M) Q else am_Wp d 261 214 [.ref 205, .int x1, .int x2, .int x3, .int x4, .int x5, .int x6, .int x7, zx8, zx9] [] (hp nS M) Q := by
  refine (eq_run 2 (q := (211, [.ref 205, .int x1, .int x2, .int x3, .int x4, .int x5, .int x6, .int x7, zx8, zx9], [.int 2, .int x1], hp nS M)) (by with_unfolding_all rfl)).trans ?_
  exact eq_cmp_ne (by with_unfolding_all rfl)
set_option maxRecDepth 20000 in
theorem b_261_214 {d nS : Nat} {x1 x2 x3 x4 x5 x6 x7 : Int32} {zx8 zx9 : Value} {M : am_M} {Q : Option Value → am_H → Prop} : am_Wp d 261 214 [.ref 205, .int x1, .int x2, .int x3, .int x4, .int x5, .int x6, .int x7, zx8, zx9] [] (hp nS M) Q = am_Wp d 261 230 [.ref 205, .int x1, .int x2, .int x3, .int x4, .int x5, .int x6, .int x7, zx8, zx9] [.int x3] (hp nS M) Q := by
  exact eq_run 2 (q := (230, [.ref 205, .int x1, .int x2, .int x3, .int x4, .int x5, .int x6, .int x7, zx8, zx9], [.int x3], hp nS M)) (by with_unfolding_all rfl)
set_option maxRecDepth 20000 in
theorem b_261_218 {d nS : Nat} {x1 x2 x3 x4 x5 x6 x7 : Int32} {zx8 zx9 : Value} {M : am_M} {Q : Option Value → am_H → Prop} : am_Wp d 261 218 [.ref 205, .int x1, .int x2, .int x3, .int x4, .int x5, .int x6, .int x7, zx8, zx9] [] (hp nS M) Q = if ¬ x1 = 3 then am_Wp d 261 228 [.ref 205, .int x1, .int x2, .int x3, .int x4, .int x5, .int x6, .int x7, zx8, zx9] [] (hp nS M) Q else am_Wp d 261 223 [.ref 205, .int x1, .int x2, .int x3, .int x4, .int x5, .int x6, .int x7, zx8, zx9] [] (hp nS M) Q := by
  refine (eq_run 2 (q := (220, [.ref 205, .int x1, .int x2, .int x3, .int x4, .int x5, .int x6, .int x7, zx8, zx9], [.int 3, .int x1], hp nS M)) (by with_unfolding_all rfl)).trans ?_
  exact eq_cmp_ne (by with_unfolding_all rfl)
set_option maxRecDepth 20000 in
theorem b_261_223 {d nS : Nat} {x1 x2 x3 x4 x5 x6 x7 : Int32} {zx8 zx9 : Value} {M : am_M} {Q : Option Value → am_H → Prop} : am_Wp d 261 223 [.ref 205, .int x1, .int x2, .int x3, .int x4, .int x5, .int x6, .int x7, zx8, zx9] [] (hp nS M) Q = am_Wp d 261 230 [.ref 205, .int x1, .int x2, .int x3, .int x4, .int x5, .int x6, .int x7, zx8, zx9] [.int x4] (hp nS M) Q := by
  exact eq_run 2 (q := (230, [.ref 205, .int x1, .int x2, .int x3, .int x4, .int x5, .int x6, .int x7, zx8, zx9], [.int x4], hp nS M)) (by with_unfolding_all rfl)
set_option maxRecDepth 20000 in
theorem b_261_228 {d nS : Nat} {x1 x2 x3 x4 x5 x6 x7 : Int32} {zx8 zx9 : Value} {M : am_M} {Q : Option Value → am_H → Prop} : am_Wp d 261 228 [.ref 205, .int x1, .int x2, .int x3, .int x4, .int x5, .int x6, .int x7, zx8, zx9] [] (hp nS M) Q = am_Wp d 261 230 [.ref 205, .int x1, .int x2, .int x3, .int x4, .int x5, .int x6, .int x7, zx8, zx9] [.int x5] (hp nS M) Q := by
  exact eq_run 1 (q := (230, [.ref 205, .int x1, .int x2, .int x3, .int x4, .int x5, .int x6, .int x7, zx8, zx9], [.int x5], hp nS M)) (by with_unfolding_all rfl)
set_option maxRecDepth 20000 in
theorem b_261_230 {d nS : Nat} {x1 x2 x3 x4 x5 x6 x7 s0 : Int32} {zx8 zx9 : Value} {M : am_M} {Q : Option Value → am_H → Prop} : am_Wp d 261 230 [.ref 205, .int x1, .int x2, .int x3, .int x4, .int x5, .int x6, .int x7, zx8, zx9] [.int s0] (hp nS M) Q = Q (some (.int s0)) (hp nS M) := by
  exact eq_retI2 (e := (.ireturn, 1, 0, 0, 0)) (t := .int) (by with_unfolding_all rfl) rfl (by with_unfolding_all rfl) rfl
-- midst()I
set_option maxRecDepth 20000 in
theorem b_262_0 {d nS : Nat} {M : am_M} {Q : Option Value → am_H → Prop} : am_Wp d 262 0 [.ref 205, .retAddr 0, .retAddr 0, .retAddr 0] [] (hp nS M) Q = am_Wp d 262 2 [.ref 205, .int 0, .retAddr 0, .retAddr 0] [] (hp nS M) Q := by
  exact eq_run 2 (q := (2, [.ref 205, .int 0, .retAddr 0, .retAddr 0], [], hp nS M)) (by with_unfolding_all rfl)
set_option maxRecDepth 20000 in
theorem b_262_2 {d nS : Nat} {x1 : Int32} {zx2 zx3 : Value} {M : am_M} {Q : Option Value → am_H → Prop} : am_Wp d 262 2 [.ref 205, .int x1, zx2, zx3] [] (hp nS M) Q = if (M 205 45) ≤ x1 then am_Wp d 262 92 [.ref 205, .int x1, zx2, zx3] [] (hp nS M) Q else am_Wp d 262 10 [.ref 205, .int x1, zx2, zx3] [] (hp nS M) Q := by
  refine (eq_run 3 (q := (7, [.ref 205, .int x1, zx2, zx3], [.int (M 205 45), .int x1], hp nS M)) (by with_unfolding_all rfl)).trans ?_
  exact eq_cmp_ge (by with_unfolding_all rfl)
set_option maxRecDepth 20000 in
theorem b_262_10 {d nS : Nat} {x1 : Int32} {zx2 zx3 : Value} {M : am_M} {Q : Option Value → am_H → Prop} : am_Wp d 262 10 [.ref 205, .int x1, zx2, zx3] [] (hp nS M) Q = am_Wp d 262 14 [.ref 205, .int x1, .int 0, .int 0] [] (hp nS M) Q := by
  exact eq_run 4 (q := (14, [.ref 205, .int x1, .int 0, .int 0], [], hp nS M)) (by with_unfolding_all rfl)
set_option maxRecDepth 20000 in
theorem b_262_14 {d nS : Nat} {x1 x2 x3 : Int32} {M : am_M} {Q : Option Value → am_H → Prop} : am_Wp d 262 14 [.ref 205, .int x1, .int x2, .int x3] [] (hp nS M) Q = if (M 205 45) ≤ x3 then am_Wp d 262 67 [.ref 205, .int x1, .int x2, .int x3] [] (hp nS M) Q else am_Wp d 262 22 [.ref 205, .int x1, .int x2, .int x3] [] (hp nS M) Q := by
  refine (eq_run 3 (q := (19, [.ref 205, .int x1, .int x2, .int x3], [.int (M 205 45), .int x3], hp nS M)) (by with_unfolding_all rfl)).trans ?_
  exact eq_cmp_ge (by with_unfolding_all rfl)
set_option maxRecDepth 20000 in
theorem b_262_22 {d nS : Nat} {x1 x2 x3 : Int32} {M : am_M} {Q : Option Value → am_H → Prop} (h1 : vp_in x3 14) (h2 : vp_in x1 14) : am_Wp d 262 22 [.ref 205, .int x1, .int x2, .int x3] [] (hp nS M) Q = if (M 227 x3.toNatClampNeg) < (M 227 x1.toNatClampNeg) then am_Wp d 262 57 [.ref 205, .int x1, .int x2, .int x3] [] (hp nS M) Q else am_Wp d 262 37 [.ref 205, .int x1, .int x2, .int x3] [] (hp nS M) Q := by
  refine (eq_run 3 (q := (27, [.ref 205, .int x1, .int x2, .int x3], [.int x3, .ref 227], hp nS M)) (by with_unfolding_all rfl)).trans ?_
  refine (eq_ald (e := (.iaload, 1, 0, 0, 0)) (by with_unfolding_all rfl) rfl (n := 14) (by with_unfolding_all rfl) h1).trans ?_
  refine (eq_run 3 (q := (33, [.ref 205, .int x1, .int x2, .int x3], [.int x1, .ref 227, .int (M 227 x3.toNatClampNeg)], hp nS M)) (by with_unfolding_all rfl)).trans ?_
  refine (eq_ald (e := (.iaload, 1, 0, 0, 0)) (by with_unfolding_all rfl) rfl (n := 14) (by with_unfolding_all rfl) h2).trans ?_
  exact eq_cmp_lt (by with_unfolding_all rfl)
set_option maxRecDepth 20000 in
theorem b_262_37 {d nS : Nat} {x1 x2 x3 : Int32} {M : am_M} {Q : Option Value → am_H → Prop} (h1 : vp_in x3 14) (h2 : vp_in x1 14) : am_Wp d 262 37 [.ref 205, .int x1, .int x2, .int x3] [] (hp nS M) Q = if ¬ (M 227 x3.toNatClampNeg) = (M 227 x1.toNatClampNeg) then am_Wp d 262 61 [.ref 205, .int x1, .int x2, .int x3] [] (hp nS M) Q else am_Wp d 262 52 [.ref 205, .int x1, .int x2, .int x3] [] (hp nS M) Q := by
  refine (eq_run 3 (q := (42, [.ref 205, .int x1, .int x2, .int x3], [.int x3, .ref 227], hp nS M)) (by with_unfolding_all rfl)).trans ?_
  refine (eq_ald (e := (.iaload, 1, 0, 0, 0)) (by with_unfolding_all rfl) rfl (n := 14) (by with_unfolding_all rfl) h1).trans ?_
  refine (eq_run 3 (q := (48, [.ref 205, .int x1, .int x2, .int x3], [.int x1, .ref 227, .int (M 227 x3.toNatClampNeg)], hp nS M)) (by with_unfolding_all rfl)).trans ?_
  refine (eq_ald (e := (.iaload, 1, 0, 0, 0)) (by with_unfolding_all rfl) rfl (n := 14) (by with_unfolding_all rfl) h2).trans ?_
  exact eq_cmp_ne (by with_unfolding_all rfl)
set_option maxRecDepth 20000 in
theorem b_262_52 {d nS : Nat} {x1 x2 x3 : Int32} {M : am_M} {Q : Option Value → am_H → Prop} : am_Wp d 262 52 [.ref 205, .int x1, .int x2, .int x3] [] (hp nS M) Q = if x1 ≤ x3 then am_Wp d 262 61 [.ref 205, .int x1, .int x2, .int x3] [] (hp nS M) Q else am_Wp d 262 57 [.ref 205, .int x1, .int x2, .int x3] [] (hp nS M) Q := by
  refine (eq_run 2 (q := (54, [.ref 205, .int x1, .int x2, .int x3], [.int x1, .int x3], hp nS M)) (by with_unfolding_all rfl)).trans ?_
  exact eq_cmp_ge (by with_unfolding_all rfl)
set_option maxRecDepth 20000 in
theorem b_262_57 {d nS : Nat} {x1 x2 x3 : Int32} {M : am_M} {Q : Option Value → am_H → Prop} : am_Wp d 262 57 [.ref 205, .int x1, .int x2, .int x3] [] (hp nS M) Q = am_Wp d 262 61 [.ref 205, .int x1, .int (x2 + 1), .int x3] [] (hp nS M) Q := by
  exact eq_run 4 (q := (61, [.ref 205, .int x1, .int (x2 + 1), .int x3], [], hp nS M)) (by with_unfolding_all rfl)
set_option maxRecDepth 20000 in
theorem b_262_61 {d nS : Nat} {x1 x2 x3 : Int32} {M : am_M} {Q : Option Value → am_H → Prop} : am_Wp d 262 61 [.ref 205, .int x1, .int x2, .int x3] [] (hp nS M) Q = am_Wp d 262 14 [.ref 205, .int x1, .int x2, .int (x3 + 1)] [] (hp nS M) Q := by
  exact eq_run 2 (q := (14, [.ref 205, .int x1, .int x2, .int (x3 + 1)], [], hp nS M)) (by with_unfolding_all rfl)
set_option maxRecDepth 20000 in
theorem b_262_67 {d nS : Nat} {x1 x2 x3 : Int32} {M : am_M} {Q : Option Value → am_H → Prop} : am_Wp d 262 67 [.ref 205, .int x1, .int x2, .int x3] [] (hp nS M) Q = if ¬ x2 = (((M 205 45) - 1) / 2) then am_Wp d 262 86 [.ref 205, .int x1, .int x2, .int x3] [] (hp nS M) Q else am_Wp d 262 79 [.ref 205, .int x1, .int x2, .int x3] [] (hp nS M) Q := by
  refine (eq_run 7 (q := (76, [.ref 205, .int x1, .int x2, .int x3], [.int (((M 205 45) - 1) / 2), .int x2], hp nS M)) (by with_unfolding_all rfl)).trans ?_
  exact eq_cmp_ne (by with_unfolding_all rfl)
set_option maxRecDepth 20000 in
theorem b_262_79 {d nS : Nat} {x1 x2 x3 : Int32} {M : am_M} {Q : Option Value → am_H → Prop} (h1 : vp_in x1 14) : am_Wp d 262 79 [.ref 205, .int x1, .int x2, .int x3] [] (hp nS M) Q = Q (some (.int (M 227 x1.toNatClampNeg))) (hp nS M) := by
  refine (eq_run 3 (q := (84, [.ref 205, .int x1, .int x2, .int x3], [.int x1, .ref 227], hp nS M)) (by with_unfolding_all rfl)).trans ?_
  refine (eq_ald (e := (.iaload, 1, 0, 0, 0)) (by with_unfolding_all rfl) rfl (n := 14) (by with_unfolding_all rfl) h1).trans ?_
  exact eq_retI2 (e := (.ireturn, 1, 0, 0, 0)) (t := .int) (by with_unfolding_all rfl) rfl (by with_unfolding_all rfl) rfl
set_option maxRecDepth 20000 in
theorem b_262_86 {d nS : Nat} {x1 x2 x3 : Int32} {M : am_M} {Q : Option Value → am_H → Prop} : am_Wp d 262 86 [.ref 205, .int x1, .int x2, .int x3] [] (hp nS M) Q = am_Wp d 262 2 [.ref 205, .int (x1 + 1), .int x2, .int x3] [] (hp nS M) Q := by
  exact eq_run 2 (q := (2, [.ref 205, .int (x1 + 1), .int x2, .int x3], [], hp nS M)) (by with_unfolding_all rfl)
set_option maxRecDepth 20000 in
theorem b_262_92 {d nS : Nat} {x1 : Int32} {zx2 zx3 : Value} {M : am_M} {Q : Option Value → am_H → Prop} : am_Wp d 262 92 [.ref 205, .int x1, zx2, zx3] [] (hp nS M) Q = Q (some (.int (-1))) (hp nS M) := by
  refine (eq_run 1 (q := (93, [.ref 205, .int x1, zx2, zx3], [.int (-1)], hp nS M)) (by with_unfolding_all rfl)).trans ?_
  exact eq_retI2 (e := (.ireturn, 1, 0, 0, 0)) (t := .int) (by with_unfolding_all rfl) rfl (by with_unfolding_all rfl) rfl
-- apart(II)I
set_option maxRecDepth 20000 in
theorem b_263_0 {d nS : Nat} {x1 x2 : Int32} {M : am_M} {Q : Option Value → am_H → Prop} : am_Wp d 263 0 [.ref 205, .int x1, .int x2] [] (hp nS M) Q = if x1 ≤ x2 then am_Wp d 263 11 [.ref 205, .int x1, .int x2] [] (hp nS M) Q else am_Wp d 263 5 [.ref 205, .int x1, .int x2] [] (hp nS M) Q := by
  refine (eq_run 2 (q := (2, [.ref 205, .int x1, .int x2], [.int x2, .int x1], hp nS M)) (by with_unfolding_all rfl)).trans ?_
  exact eq_cmp_le (by with_unfolding_all rfl)
set_option maxRecDepth 20000 in
theorem b_263_5 {d nS : Nat} {x1 x2 : Int32} {M : am_M} {Q : Option Value → am_H → Prop} : am_Wp d 263 5 [.ref 205, .int x1, .int x2] [] (hp nS M) Q = am_Wp d 263 14 [.ref 205, .int x1, .int x2] [.int (x1 - x2)] (hp nS M) Q := by
  exact eq_run 4 (q := (14, [.ref 205, .int x1, .int x2], [.int (x1 - x2)], hp nS M)) (by with_unfolding_all rfl)
set_option maxRecDepth 20000 in
theorem b_263_11 {d nS : Nat} {x1 x2 : Int32} {M : am_M} {Q : Option Value → am_H → Prop} : am_Wp d 263 11 [.ref 205, .int x1, .int x2] [] (hp nS M) Q = am_Wp d 263 14 [.ref 205, .int x1, .int x2] [.int (x2 - x1)] (hp nS M) Q := by
  exact eq_run 3 (q := (14, [.ref 205, .int x1, .int x2], [.int (x2 - x1)], hp nS M)) (by with_unfolding_all rfl)
set_option maxRecDepth 20000 in
theorem b_263_14 {d nS : Nat} {x1 x2 s0 : Int32} {M : am_M} {Q : Option Value → am_H → Prop} : am_Wp d 263 14 [.ref 205, .int x1, .int x2] [.int s0] (hp nS M) Q = Q (some (.int s0)) (hp nS M) := by
  exact eq_retI2 (e := (.ireturn, 1, 0, 0, 0)) (t := .int) (by with_unfolding_all rfl) rfl (by with_unfolding_all rfl) rfl
-- change(III)Z
set_option maxRecDepth 20000 in
theorem b_264_0 {d nS : Nat} {x1 x2 x3 : Int32} {M : am_M} {Q : Option Value → am_H → Prop} : am_Wp (d + 1) 264 0 [.ref 205, .int x1, .int x2, .int x3] [] (hp nS M) Q = am_Wp d 171 0 [.ref 205, .int x1, .int 0, .int 3] [] (hp nS (am_up M 205 0 0)) (fun v h1 => am_Wp (d + 1) 264 12 [.ref 205, .int x1, .int x2, .int x3] (am_ans v []) h1 Q) := by
  refine (eq_run 7 (q := (9, [.ref 205, .int x1, .int x2, .int x3], [.int 3, .int 0, .int x1, .ref 205], hp nS (am_up M 205 0 0))) (by with_unfolding_all rfl)).trans ?_
  exact eq_call2 (e := (.invokevirtual 144, 3, 0, 171, 275)) (as := [.ref 205, .int x1, .int 0, .int 3]) (r := []) (n := 4) (m := 4) (by with_unfolding_all rfl) rfl (by decide) (by with_unfolding_all rfl) (by decide) (by with_unfolding_all rfl) ⟨fun _ => am_rec_ok (c := 14) (by with_unfolding_all rfl) (by decide +kernel), fun z => by simp at z⟩
set_option maxRecDepth 20000 in
theorem b_264_12 {d nS : Nat} {x1 x2 x3 s0 : Int32} {M : am_M} {Q : Option Value → am_H → Prop} : am_Wp d 264 12 [.ref 205, .int x1, .int x2, .int x3] [.int s0] (hp nS M) Q = if s0 = 0 then am_Wp d 264 30 [.ref 205, .int x1, .int x2, .int x3] [] (hp nS M) Q else am_Wp d 264 15 [.ref 205, .int x1, .int x2, .int x3] [] (hp nS M) Q := by
  exact eq_if_eq (by with_unfolding_all rfl)
set_option maxRecDepth 20000 in
theorem b_264_15 {d nS : Nat} {x1 x2 x3 : Int32} {M : am_M} {Q : Option Value → am_H → Prop} : am_Wp (d + 1) 264 15 [.ref 205, .int x1, .int x2, .int x3] [] (hp nS M) Q = am_Wp d 171 0 [.ref 205, .int x2, .int 0, .int 3] [] (hp nS M) (fun v h1 => am_Wp (d + 1) 264 22 [.ref 205, .int x1, .int x2, .int x3] (am_ans v []) h1 Q) := by
  refine (eq_run 4 (q := (19, [.ref 205, .int x1, .int x2, .int x3], [.int 3, .int 0, .int x2, .ref 205], hp nS M)) (by with_unfolding_all rfl)).trans ?_
  exact eq_call2 (e := (.invokevirtual 144, 3, 0, 171, 275)) (as := [.ref 205, .int x2, .int 0, .int 3]) (r := []) (n := 4) (m := 4) (by with_unfolding_all rfl) rfl (by decide) (by with_unfolding_all rfl) (by decide) (by with_unfolding_all rfl) ⟨fun _ => am_rec_ok (c := 14) (by with_unfolding_all rfl) (by decide +kernel), fun z => by simp at z⟩
set_option maxRecDepth 20000 in
theorem b_264_22 {d nS : Nat} {x1 x2 x3 s0 : Int32} {M : am_M} {Q : Option Value → am_H → Prop} : am_Wp d 264 22 [.ref 205, .int x1, .int x2, .int x3] [.int s0] (hp nS M) Q = if s0 = 0 then am_Wp d 264 30 [.ref 205, .int x1, .int x2, .int x3] [] (hp nS M) Q else am_Wp d 264 25 [.ref 205, .int x1, .int x2, .int x3] [] (hp nS M) Q := by
  exact eq_if_eq (by with_unfolding_all rfl)
set_option maxRecDepth 20000 in
theorem b_264_25 {d nS : Nat} {x1 x2 x3 : Int32} {M : am_M} {Q : Option Value → am_H → Prop} : am_Wp d 264 25 [.ref 205, .int x1, .int x2, .int x3] [] (hp nS M) Q = if ¬ x1 = x2 then am_Wp d 264 32 [.ref 205, .int x1, .int x2, .int x3] [] (hp nS M) Q else am_Wp d 264 30 [.ref 205, .int x1, .int x2, .int x3] [] (hp nS M) Q := by
  refine (eq_run 2 (q := (27, [.ref 205, .int x1, .int x2, .int x3], [.int x2, .int x1], hp nS M)) (by with_unfolding_all rfl)).trans ?_
  exact eq_cmp_ne (by with_unfolding_all rfl)
set_option maxRecDepth 20000 in
theorem b_264_30 {d nS : Nat} {x1 x2 x3 : Int32} {M : am_M} {Q : Option Value → am_H → Prop} : am_Wp d 264 30 [.ref 205, .int x1, .int x2, .int x3] [] (hp nS M) Q = Q (some (.int 0)) (hp nS M) := by
  refine (eq_run 1 (q := (31, [.ref 205, .int x1, .int x2, .int x3], [.int 0], hp nS M)) (by with_unfolding_all rfl)).trans ?_
  exact eq_retI2 (e := (.ireturn, 1, 0, 0, 0)) (t := .boolean) (by with_unfolding_all rfl) rfl (by with_unfolding_all rfl) rfl
set_option maxRecDepth 20000 in
theorem b_264_32 {d nS : Nat} {x1 x2 x3 : Int32} {M : am_M} {Q : Option Value → am_H → Prop} : am_Wp d 264 32 [.ref 205, .int x1, .int x2, .int x3] [] (hp nS M) Q = if x3 = 0 then am_Wp d 264 57 [.ref 205, .int x1, .int x2, .int x3] [] (hp nS M) Q else am_Wp d 264 36 [.ref 205, .int x1, .int x2, .int x3] [] (hp nS M) Q := by
  refine (eq_run 1 (q := (33, [.ref 205, .int x1, .int x2, .int x3], [.int x3], hp nS M)) (by with_unfolding_all rfl)).trans ?_
  exact eq_if_eq (by with_unfolding_all rfl)
set_option maxRecDepth 20000 in
theorem b_264_36 {d nS : Nat} {x1 x2 x3 : Int32} {M : am_M} {Q : Option Value → am_H → Prop} : am_Wp (d + 1) 264 36 [.ref 205, .int x1, .int x2, .int x3] [] (hp nS M) Q = am_Wp d 171 0 [.ref 205, .int x3, .int 11, .int 99] [] (hp nS M) (fun v h1 => am_Wp (d + 1) 264 45 [.ref 205, .int x1, .int x2, .int x3] (am_ans v []) h1 Q) := by
  refine (eq_run 4 (q := (42, [.ref 205, .int x1, .int x2, .int x3], [.int 99, .int 11, .int x3, .ref 205], hp nS M)) (by with_unfolding_all rfl)).trans ?_
  exact eq_call2 (e := (.invokevirtual 144, 3, 0, 171, 275)) (as := [.ref 205, .int x3, .int 11, .int 99]) (r := []) (n := 4) (m := 4) (by with_unfolding_all rfl) rfl (by decide) (by with_unfolding_all rfl) (by decide) (by with_unfolding_all rfl) ⟨fun _ => am_rec_ok (c := 14) (by with_unfolding_all rfl) (by decide +kernel), fun z => by simp at z⟩
set_option maxRecDepth 20000 in
theorem b_264_45 {d nS : Nat} {x1 x2 x3 s0 : Int32} {M : am_M} {Q : Option Value → am_H → Prop} : am_Wp d 264 45 [.ref 205, .int x1, .int x2, .int x3] [.int s0] (hp nS M) Q = if s0 = 0 then am_Wp d 264 55 [.ref 205, .int x1, .int x2, .int x3] [] (hp nS M) Q else am_Wp d 264 48 [.ref 205, .int x1, .int x2, .int x3] [] (hp nS M) Q := by
  exact eq_if_eq (by with_unfolding_all rfl)
set_option maxRecDepth 20000 in
theorem b_264_48 {d nS : Nat} {x1 x2 x3 : Int32} {M : am_M} {Q : Option Value → am_H → Prop} : am_Wp d 264 48 [.ref 205, .int x1, .int x2, .int x3] [] (hp nS M) Q = if ¬ (x3 - x3 / 10 * 10) = 0 then am_Wp d 264 57 [.ref 205, .int x1, .int x2, .int x3] [] (hp nS M) Q else am_Wp d 264 55 [.ref 205, .int x1, .int x2, .int x3] [] (hp nS M) Q := by
  refine (eq_run 3 (q := (52, [.ref 205, .int x1, .int x2, .int x3], [.int (x3 - x3 / 10 * 10)], hp nS M)) (by with_unfolding_all rfl)).trans ?_
  exact eq_if_ne (by with_unfolding_all rfl)
set_option maxRecDepth 20000 in
theorem b_264_55 {d nS : Nat} {x1 x2 x3 : Int32} {M : am_M} {Q : Option Value → am_H → Prop} : am_Wp d 264 55 [.ref 205, .int x1, .int x2, .int x3] [] (hp nS M) Q = Q (some (.int 0)) (hp nS M) := by
  refine (eq_run 1 (q := (56, [.ref 205, .int x1, .int x2, .int x3], [.int 0], hp nS M)) (by with_unfolding_all rfl)).trans ?_
  exact eq_retI2 (e := (.ireturn, 1, 0, 0, 0)) (t := .boolean) (by with_unfolding_all rfl) rfl (by with_unfolding_all rfl) rfl
set_option maxRecDepth 20000 in
theorem b_264_57 {d nS : Nat} {x1 x2 x3 : Int32} {M : am_M} {Q : Option Value → am_H → Prop} (h1 : vp_in ((4 * x1) + x2) 16) : am_Wp d 264 57 [.ref 205, .int x1, .int x2, .int x3] [] (hp nS M) Q = Q (some (.int 1)) (hp nS (am_up M 229 ((4 * x1) + x2).toNatClampNeg x3)) := by
  refine (eq_run 8 (q := (67, [.ref 205, .int x1, .int x2, .int x3], [.int x3, .int ((4 * x1) + x2), .ref 229], hp nS M)) (by with_unfolding_all rfl)).trans ?_
  refine (eq_ast (e := (.iastore, 1, 0, 0, 0)) (by with_unfolding_all rfl) rfl (n := 16) (by with_unfolding_all rfl) (by decide) h1).trans ?_
  refine (eq_run 1 (q := (69, [.ref 205, .int x1, .int x2, .int x3], [.int 1], hp nS (am_up M 229 ((4 * x1) + x2).toNatClampNeg x3))) (by with_unfolding_all rfl)).trans ?_
  exact eq_retI2 (e := (.ireturn, 1, 0, 0, 0)) (t := .boolean) (by with_unfolding_all rfl) rfl (by with_unfolding_all rfl) rfl
-- round(II)I
set_option maxRecDepth 20000 in
theorem b_265_0 {d nS : Nat} {x1 x2 : Int32} {M : am_M} {Q : Option Value → am_H → Prop} : am_Wp (d + 1) 265 0 [.ref 205, .int x1, .int x2, .retAddr 0, .retAddr 0, .retAddr 0, .retAddr 0] [] (hp nS M) Q = am_Wp d 171 0 [.ref 205, .int x1, .int 0, .int 3] [] (hp nS (am_up M 205 0 0)) (fun v h1 => am_Wp (d + 1) 265 12 [.ref 205, .int x1, .int x2, .retAddr 0, .retAddr 0, .retAddr 0, .retAddr 0] (am_ans v []) h1 Q) := by
  refine (eq_run 7 (q := (9, [.ref 205, .int x1, .int x2, .retAddr 0, .retAddr 0, .retAddr 0, .retAddr 0], [.int 3, .int 0, .int x1, .ref 205], hp nS (am_up M 205 0 0))) (by with_unfolding_all rfl)).trans ?_
  exact eq_call2 (e := (.invokevirtual 144, 3, 0, 171, 275)) (as := [.ref 205, .int x1, .int 0, .int 3]) (r := []) (n := 4) (m := 4) (by with_unfolding_all rfl) rfl (by decide) (by with_unfolding_all rfl) (by decide) (by with_unfolding_all rfl) ⟨fun _ => am_rec_ok (c := 14) (by with_unfolding_all rfl) (by decide +kernel), fun z => by simp at z⟩
set_option maxRecDepth 20000 in
theorem b_265_12 {d nS : Nat} {x1 x2 s0 : Int32} {M : am_M} {Q : Option Value → am_H → Prop} : am_Wp d 265 12 [.ref 205, .int x1, .int x2, .retAddr 0, .retAddr 0, .retAddr 0, .retAddr 0] [.int s0] (hp nS M) Q = if s0 = 0 then am_Wp d 265 25 [.ref 205, .int x1, .int x2, .retAddr 0, .retAddr 0, .retAddr 0, .retAddr 0] [] (hp nS M) Q else am_Wp d 265 15 [.ref 205, .int x1, .int x2, .retAddr 0, .retAddr 0, .retAddr 0, .retAddr 0] [] (hp nS M) Q := by
  exact eq_if_eq (by with_unfolding_all rfl)
set_option maxRecDepth 20000 in
theorem b_265_15 {d nS : Nat} {x1 x2 : Int32} {M : am_M} {Q : Option Value → am_H → Prop} : am_Wp (d + 1) 265 15 [.ref 205, .int x1, .int x2, .retAddr 0, .retAddr 0, .retAddr 0, .retAddr 0] [] (hp nS M) Q = am_Wp d 171 0 [.ref 205, .int x2, .int 0, .int 1] [] (hp nS M) (fun v h1 => am_Wp (d + 1) 265 22 [.ref 205, .int x1, .int x2, .retAddr 0, .retAddr 0, .retAddr 0, .retAddr 0] (am_ans v []) h1 Q) := by
  refine (eq_run 4 (q := (19, [.ref 205, .int x1, .int x2, .retAddr 0, .retAddr 0, .retAddr 0, .retAddr 0], [.int 1, .int 0, .int x2, .ref 205], hp nS M)) (by with_unfolding_all rfl)).trans ?_
  exact eq_call2 (e := (.invokevirtual 144, 3, 0, 171, 275)) (as := [.ref 205, .int x2, .int 0, .int 1]) (r := []) (n := 4) (m := 4) (by with_unfolding_all rfl) rfl (by decide) (by with_unfolding_all rfl) (by decide) (by with_unfolding_all rfl) ⟨fun _ => am_rec_ok (c := 14) (by with_unfolding_all rfl) (by decide +kernel), fun z => by simp at z⟩
set_option maxRecDepth 20000 in
theorem b_265_22 {d nS : Nat} {x1 x2 s0 : Int32} {M : am_M} {Q : Option Value → am_H → Prop} : am_Wp d 265 22 [.ref 205, .int x1, .int x2, .retAddr 0, .retAddr 0, .retAddr 0, .retAddr 0] [.int s0] (hp nS M) Q = if ¬ s0 = 0 then am_Wp d 265 27 [.ref 205, .int x1, .int x2, .retAddr 0, .retAddr 0, .retAddr 0, .retAddr 0] [] (hp nS M) Q else am_Wp d 265 25 [.ref 205, .int x1, .int x2, .retAddr 0, .retAddr 0, .retAddr 0, .retAddr 0] [] (hp nS M) Q := by
  exact eq_if_ne (by with_unfolding_all rfl)
set_option maxRecDepth 20000 in
theorem b_265_25 {d nS : Nat} {x1 x2 : Int32} {M : am_M} {Q : Option Value → am_H → Prop} : am_Wp d 265 25 [.ref 205, .int x1, .int x2, .retAddr 0, .retAddr 0, .retAddr 0, .retAddr 0] [] (hp nS M) Q = Q (some (.int (-1))) (hp nS M) := by
  refine (eq_run 1 (q := (26, [.ref 205, .int x1, .int x2, .retAddr 0, .retAddr 0, .retAddr 0, .retAddr 0], [.int (-1)], hp nS M)) (by with_unfolding_all rfl)).trans ?_
  exact eq_retI2 (e := (.ireturn, 1, 0, 0, 0)) (t := .int) (by with_unfolding_all rfl) rfl (by with_unfolding_all rfl) rfl
set_option maxRecDepth 20000 in
theorem b_265_27 {d nS : Nat} {x1 x2 : Int32} {M : am_M} {Q : Option Value → am_H → Prop} : am_Wp d 265 27 [.ref 205, .int x1, .int x2, .retAddr 0, .retAddr 0, .retAddr 0, .retAddr 0] [] (hp nS M) Q = am_Wp d 265 39 [.ref 205, .int x1, .int x2, .int 0, .retAddr 0, .retAddr 0, .retAddr 0] [] (hp nS (am_up (am_up M 205 1 (-1)) 205 2 0)) Q := by
  exact eq_run 8 (q := (39, [.ref 205, .int x1, .int x2, .int 0, .retAddr 0, .retAddr 0, .retAddr 0], [], hp nS (am_up (am_up M 205 1 (-1)) 205 2 0))) (by with_unfolding_all rfl)
set_option maxRecDepth 20000 in
theorem b_265_39 {d nS : Nat} {x1 x2 x3 : Int32} {zx4 zx5 zx6 : Value} {M : am_M} {Q : Option Value → am_H → Prop} : am_Wp d 265 39 [.ref 205, .int x1, .int x2, .int x3, zx4, zx5, zx6] [] (hp nS M) Q = if 5 ≤ x3 then am_Wp d 265 165 [.ref 205, .int x1, .int x2, .int x3, zx4, zx5, zx6] [] (hp nS M) Q else am_Wp d 265 44 [.ref 205, .int x1, .int x2, .int x3, zx4, zx5, zx6] [] (hp nS M) Q := by
  refine (eq_run 2 (q := (41, [.ref 205, .int x1, .int x2, .int x3, zx4, zx5, zx6], [.int 5, .int x3], hp nS M)) (by with_unfolding_all rfl)).trans ?_
  exact eq_cmp_ge (by with_unfolding_all rfl)
set_option maxRecDepth 20000 in
theorem b_265_44 {d nS : Nat} {x1 x2 x3 : Int32} {zx4 zx5 zx6 : Value} {M : am_M} {Q : Option Value → am_H → Prop} : am_Wp d 265 44 [.ref 205, .int x1, .int x2, .int x3, zx4, zx5, zx6] [] (hp nS M) Q = am_Wp d 265 47 [.ref 205, .int x1, .int x2, .int x3, .int 0, zx5, zx6] [] (hp nS M) Q := by
  exact eq_run 2 (q := (47, [.ref 205, .int x1, .int x2, .int x3, .int 0, zx5, zx6], [], hp nS M)) (by with_unfolding_all rfl)
set_option maxRecDepth 20000 in
theorem b_265_47 {d nS : Nat} {x1 x2 x3 x4 : Int32} {zx5 zx6 : Value} {M : am_M} {Q : Option Value → am_H → Prop} : am_Wp d 265 47 [.ref 205, .int x1, .int x2, .int x3, .int x4, zx5, zx6] [] (hp nS M) Q = if 5 ≤ x4 then am_Wp d 265 159 [.ref 205, .int x1, .int x2, .int x3, .int x4, zx5, zx6] [] (hp nS M) Q else am_Wp d 265 53 [.ref 205, .int x1, .int x2, .int x3, .int x4, zx5, zx6] [] (hp nS M) Q := by
  refine (eq_run 2 (q := (50, [.ref 205, .int x1, .int x2, .int x3, .int x4, zx5, zx6], [.int 5, .int x4], hp nS M)) (by with_unfolding_all rfl)).trans ?_
  exact eq_cmp_ge (by with_unfolding_all rfl)
set_option maxRecDepth 20000 in
theorem b_265_53 {d nS : Nat} {x1 x2 x3 x4 : Int32} {zx5 zx6 : Value} {M : am_M} {Q : Option Value → am_H → Prop} : am_Wp d 265 53 [.ref 205, .int x1, .int x2, .int x3, .int x4, zx5, zx6] [] (hp nS M) Q = am_Wp d 265 56 [.ref 205, .int x1, .int x2, .int x3, .int x4, .int 1, zx6] [] (hp nS M) Q := by
  exact eq_run 2 (q := (56, [.ref 205, .int x1, .int x2, .int x3, .int x4, .int 1, zx6], [], hp nS M)) (by with_unfolding_all rfl)
set_option maxRecDepth 20000 in
theorem b_265_56 {d nS : Nat} {x1 x2 x3 x4 x5 : Int32} {zx6 : Value} {M : am_M} {Q : Option Value → am_H → Prop} : am_Wp d 265 56 [.ref 205, .int x1, .int x2, .int x3, .int x4, .int x5, zx6] [] (hp nS M) Q = if 5 ≤ x5 then am_Wp d 265 153 [.ref 205, .int x1, .int x2, .int x3, .int x4, .int x5, zx6] [] (hp nS M) Q else am_Wp d 265 62 [.ref 205, .int x1, .int x2, .int x3, .int x4, .int x5, zx6] [] (hp nS M) Q := by
  refine (eq_run 2 (q := (59, [.ref 205, .int x1, .int x2, .int x3, .int x4, .int x5, zx6], [.int 5, .int x5], hp nS M)) (by with_unfolding_all rfl)).trans ?_
  exact eq_cmp_ge (by with_unfolding_all rfl)
set_option maxRecDepth 20000 in
theorem b_265_62 {d nS : Nat} {x1 x2 x3 x4 x5 : Int32} {zx6 : Value} {M : am_M} {Q : Option Value → am_H → Prop} : am_Wp d 265 62 [.ref 205, .int x1, .int x2, .int x3, .int x4, .int x5, zx6] [] (hp nS M) Q = if x3 ≤ 0 then am_Wp d 265 74 [.ref 205, .int x1, .int x2, .int x3, .int x4, .int x5, zx6] [] (hp nS M) Q else am_Wp d 265 66 [.ref 205, .int x1, .int x2, .int x3, .int x4, .int x5, zx6] [] (hp nS M) Q := by
  refine (eq_run 1 (q := (63, [.ref 205, .int x1, .int x2, .int x3, .int x4, .int x5, zx6], [.int x3], hp nS M)) (by with_unfolding_all rfl)).trans ?_
  exact eq_if_le (by with_unfolding_all rfl)
set_option maxRecDepth 20000 in
theorem b_265_66 {d nS : Nat} {x1 x2 x3 x4 x5 : Int32} {zx6 : Value} {M : am_M} {Q : Option Value → am_H → Prop} : am_Wp d 265 66 [.ref 205, .int x1, .int x2, .int x3, .int x4, .int x5, zx6] [] (hp nS M) Q = if ¬ x4 = 0 then am_Wp d 265 74 [.ref 205, .int x1, .int x2, .int x3, .int x4, .int x5, zx6] [] (hp nS M) Q else am_Wp d 265 71 [.ref 205, .int x1, .int x2, .int x3, .int x4, .int x5, zx6] [] (hp nS M) Q := by
  refine (eq_run 1 (q := (68, [.ref 205, .int x1, .int x2, .int x3, .int x4, .int x5, zx6], [.int x4], hp nS M)) (by with_unfolding_all rfl)).trans ?_
  exact eq_if_ne (by with_unfolding_all rfl)
set_option maxRecDepth 20000 in
theorem b_265_71 {d nS : Nat} {x1 x2 x3 x4 x5 : Int32} {zx6 : Value} {M : am_M} {Q : Option Value → am_H → Prop} : am_Wp d 265 71 [.ref 205, .int x1, .int x2, .int x3, .int x4, .int x5, zx6] [] (hp nS M) Q = am_Wp d 265 147 [.ref 205, .int x1, .int x2, .int x3, .int x4, .int x5, zx6] [] (hp nS M) Q := by
  exact eq_run 1 (q := (147, [.ref 205, .int x1, .int x2, .int x3, .int x4, .int x5, zx6], [], hp nS M)) (by with_unfolding_all rfl)
set_option maxRecDepth 20000 in
theorem b_265_74 {d nS : Nat} {x1 x2 x3 x4 x5 : Int32} {zx6 : Value} {M : am_M} {Q : Option Value → am_H → Prop} : am_Wp d 265 74 [.ref 205, .int x1, .int x2, .int x3, .int x4, .int x5, zx6] [] (hp nS M) Q = if x3 ≤ 0 then am_Wp d 265 92 [.ref 205, .int x1, .int x2, .int x3, .int x4, .int x5, .int (x1 + 1)] [] (hp nS M) Q else am_Wp d 265 83 [.ref 205, .int x1, .int x2, .int x3, .int x4, .int x5, .int (x1 + 1)] [] (hp nS M) Q := by
  refine (eq_run 5 (q := (80, [.ref 205, .int x1, .int x2, .int x3, .int x4, .int x5, .int (x1 + 1)], [.int x3], hp nS M)) (by with_unfolding_all rfl)).trans ?_
  exact eq_if_le (by with_unfolding_all rfl)
set_option maxRecDepth 20000 in
theorem b_265_83 {d nS : Nat} {x1 x2 x3 x4 x5 x6 : Int32} {M : am_M} {Q : Option Value → am_H → Prop} : am_Wp d 265 83 [.ref 205, .int x1, .int x2, .int x3, .int x4, .int x5, .int x6] [] (hp nS M) Q = am_Wp d 265 92 [.ref 205, .int x1, .int x2, .int x3, .int x4, .int x5, .int ((10 * x6) + x3)] [] (hp nS M) Q := by
  exact eq_run 6 (q := (92, [.ref 205, .int x1, .int x2, .int x3, .int x4, .int x5, .int ((10 * x6) + x3)], [], hp nS M)) (by with_unfolding_all rfl)
set_option maxRecDepth 20000 in
theorem b_265_92 {d nS : Nat} {x1 x2 x3 x4 x5 x6 : Int32} {M : am_M} {Q : Option Value → am_H → Prop} : am_Wp d 265 92 [.ref 205, .int x1, .int x2, .int x3, .int x4, .int x5, .int x6] [] (hp nS M) Q = if x4 ≤ 0 then am_Wp d 265 107 [.ref 205, .int x1, .int x2, .int x3, .int x4, .int x5, .int x6] [] (hp nS M) Q else am_Wp d 265 97 [.ref 205, .int x1, .int x2, .int x3, .int x4, .int x5, .int x6] [] (hp nS M) Q := by
  refine (eq_run 1 (q := (94, [.ref 205, .int x1, .int x2, .int x3, .int x4, .int x5, .int x6], [.int x4], hp nS M)) (by with_unfolding_all rfl)).trans ?_
  exact eq_if_le (by with_unfolding_all rfl)
set_option maxRecDepth 20000 in
theorem b_265_97 {d nS : Nat} {x1 x2 x3 x4 x5 x6 : Int32} {M : am_M} {Q : Option Value → am_H → Prop} : am_Wp d 265 97 [.ref 205, .int x1, .int x2, .int x3, .int x4, .int x5, .int x6] [] (hp nS M) Q = am_Wp d 265 107 [.ref 205, .int x1, .int x2, .int x3, .int x4, .int x5, .int ((10 * x6) + x4)] [] (hp nS M) Q := by
  exact eq_run 6 (q := (107, [.ref 205, .int x1, .int x2, .int x3, .int x4, .int x5, .int ((10 * x6) + x4)], [], hp nS M)) (by with_unfolding_all rfl)
set_option maxRecDepth 20000 in
theorem b_265_107 {d nS : Nat} {x1 x2 x3 x4 x5 x6 : Int32} {M : am_M} {Q : Option Value → am_H → Prop} : am_Wp d 265 107 [.ref 205, .int x1, .int x2, .int x3, .int x4, .int x5, .int x6] [] (hp nS M) Q = if (x3 - 1) = x1 then am_Wp d 265 147 [.ref 205, .int x1, .int x2, .int x3, .int x4, .int x5, .int ((10 * x6) + x5)] [] (hp nS M) Q else am_Wp d 265 124 [.ref 205, .int x1, .int x2, .int x3, .int x4, .int x5, .int ((10 * x6) + x5)] [] (hp nS M) Q := by
  refine (eq_run 10 (q := (121, [.ref 205, .int x1, .int x2, .int x3, .int x4, .int x5, .int ((10 * x6) + x5)], [.int x1, .int (x3 - 1)], hp nS M)) (by with_unfolding_all rfl)).trans ?_
  exact eq_cmp_eq (by with_unfolding_all rfl)
set_option maxRecDepth 20000 in
theorem b_265_124 {d nS : Nat} {x1 x2 x3 x4 x5 x6 : Int32} {M : am_M} {Q : Option Value → am_H → Prop} : am_Wp d 265 124 [.ref 205, .int x1, .int x2, .int x3, .int x4, .int x5, .int x6] [] (hp nS M) Q = if (x4 - 1) = x1 then am_Wp d 265 147 [.ref 205, .int x1, .int x2, .int x3, .int x4, .int x5, .int x6] [] (hp nS M) Q else am_Wp d 265 132 [.ref 205, .int x1, .int x2, .int x3, .int x4, .int x5, .int x6] [] (hp nS M) Q := by
  refine (eq_run 4 (q := (129, [.ref 205, .int x1, .int x2, .int x3, .int x4, .int x5, .int x6], [.int x1, .int (x4 - 1)], hp nS M)) (by with_unfolding_all rfl)).trans ?_
  exact eq_cmp_eq (by with_unfolding_all rfl)
set_option maxRecDepth 20000 in
theorem b_265_132 {d nS : Nat} {x1 x2 x3 x4 x5 x6 : Int32} {M : am_M} {Q : Option Value → am_H → Prop} : am_Wp d 265 132 [.ref 205, .int x1, .int x2, .int x3, .int x4, .int x5, .int x6] [] (hp nS M) Q = if (x5 - 1) = x1 then am_Wp d 265 147 [.ref 205, .int x1, .int x2, .int x3, .int x4, .int x5, .int x6] [] (hp nS M) Q else am_Wp d 265 140 [.ref 205, .int x1, .int x2, .int x3, .int x4, .int x5, .int x6] [] (hp nS M) Q := by
  refine (eq_run 4 (q := (137, [.ref 205, .int x1, .int x2, .int x3, .int x4, .int x5, .int x6], [.int x1, .int (x5 - 1)], hp nS M)) (by with_unfolding_all rfl)).trans ?_
  exact eq_cmp_eq (by with_unfolding_all rfl)
set_option maxRecDepth 20000 in
theorem b_265_140 {d nS : Nat} {x1 x2 x3 x4 x5 x6 : Int32} {M : am_M} {Q : Option Value → am_H → Prop} : am_Wp (d + 1) 265 140 [.ref 205, .int x1, .int x2, .int x3, .int x4, .int x5, .int x6] [] (hp nS M) Q = am_Wp d 266 0 [.ref 205, .int x1, .int x6, .retAddr 0, .retAddr 0, .retAddr 0, .retAddr 0, .retAddr 0, .retAddr 0] [] (hp nS M) (fun v h1 => am_Wp (d + 1) 265 147 [.ref 205, .int x1, .int x2, .int x3, .int x4, .int x5, .int x6] (am_ans v []) h1 Q) := by
  refine (eq_run 3 (q := (144, [.ref 205, .int x1, .int x2, .int x3, .int x4, .int x5, .int x6], [.int x6, .int x1, .ref 205], hp nS M)) (by with_unfolding_all rfl)).trans ?_
  exact eq_call2 (e := (.invokevirtual 432, 3, 0, 266, 351)) (as := [.ref 205, .int x1, .int x6]) (r := []) (n := 3) (m := 9) (by with_unfolding_all rfl) rfl (by decide) (by with_unfolding_all rfl) (by decide) (by with_unfolding_all rfl) ⟨fun _ => am_rec_ok (c := 14) (by with_unfolding_all rfl) (by decide +kernel), fun z => by simp at z⟩
set_option maxRecDepth 20000 in
theorem b_265_147 {d nS : Nat} {x1 x2 x3 x4 x5 : Int32} {zx6 : Value} {M : am_M} {Q : Option Value → am_H → Prop} : am_Wp d 265 147 [.ref 205, .int x1, .int x2, .int x3, .int x4, .int x5, zx6] [] (hp nS M) Q = am_Wp d 265 56 [.ref 205, .int x1, .int x2, .int x3, .int x4, .int (x5 + 1), zx6] [] (hp nS M) Q := by
  exact eq_run 2 (q := (56, [.ref 205, .int x1, .int x2, .int x3, .int x4, .int (x5 + 1), zx6], [], hp nS M)) (by with_unfolding_all rfl)
set_option maxRecDepth 20000 in
theorem b_265_153 {d nS : Nat} {x1 x2 x3 x4 x5 : Int32} {zx6 : Value} {M : am_M} {Q : Option Value → am_H → Prop} : am_Wp d 265 153 [.ref 205, .int x1, .int x2, .int x3, .int x4, .int x5, zx6] [] (hp nS M) Q = am_Wp d 265 47 [.ref 205, .int x1, .int x2, .int x3, .int (x4 + 1), .int x5, zx6] [] (hp nS M) Q := by
  exact eq_run 2 (q := (47, [.ref 205, .int x1, .int x2, .int x3, .int (x4 + 1), .int x5, zx6], [], hp nS M)) (by with_unfolding_all rfl)
set_option maxRecDepth 20000 in
theorem b_265_159 {d nS : Nat} {x1 x2 x3 x4 : Int32} {zx5 zx6 : Value} {M : am_M} {Q : Option Value → am_H → Prop} : am_Wp d 265 159 [.ref 205, .int x1, .int x2, .int x3, .int x4, zx5, zx6] [] (hp nS M) Q = am_Wp d 265 39 [.ref 205, .int x1, .int x2, .int (x3 + 1), .int x4, zx5, zx6] [] (hp nS M) Q := by
  exact eq_run 2 (q := (39, [.ref 205, .int x1, .int x2, .int (x3 + 1), .int x4, zx5, zx6], [], hp nS M)) (by with_unfolding_all rfl)
set_option maxRecDepth 20000 in
theorem b_265_165 {d nS : Nat} {x1 x2 x3 : Int32} {zx4 zx5 zx6 : Value} {M : am_M} {Q : Option Value → am_H → Prop} : am_Wp d 265 165 [.ref 205, .int x1, .int x2, .int x3, zx4, zx5, zx6] [] (hp nS M) Q = if ¬ (M 205 2) = 0 then am_Wp d 265 176 [.ref 205, .int x1, .int x2, .int x3, zx4, zx5, zx6] [] (hp nS M) Q else am_Wp d 265 172 [.ref 205, .int x1, .int x2, .int x3, zx4, zx5, zx6] [] (hp nS M) Q := by
  refine (eq_run 2 (q := (169, [.ref 205, .int x1, .int x2, .int x3, zx4, zx5, zx6], [.int (M 205 2)], hp nS M)) (by with_unfolding_all rfl)).trans ?_
  exact eq_if_ne (by with_unfolding_all rfl)
set_option maxRecDepth 20000 in
theorem b_265_172 {d nS : Nat} {x1 x2 x3 : Int32} {zx4 zx5 zx6 : Value} {M : am_M} {Q : Option Value → am_H → Prop} : am_Wp d 265 172 [.ref 205, .int x1, .int x2, .int x3, zx4, zx5, zx6] [] (hp nS M) Q = am_Wp d 265 191 [.ref 205, .int x1, .int x2, .int x3, zx4, zx5, zx6] [.int (-1)] (hp nS M) Q := by
  exact eq_run 2 (q := (191, [.ref 205, .int x1, .int x2, .int x3, zx4, zx5, zx6], [.int (-1)], hp nS M)) (by with_unfolding_all rfl)
set_option maxRecDepth 20000 in
theorem b_265_176 {d nS : Nat} {x1 x2 x3 : Int32} {zx4 zx5 zx6 : Value} {M : am_M} {Q : Option Value → am_H → Prop} : am_Wp d 265 176 [.ref 205, .int x1, .int x2, .int x3, zx4, zx5, zx6] [] (hp nS M) Q = if ¬ x2 = 0 then am_Wp d 265 187 [.ref 205, .int x1, .int x2, .int x3, zx4, zx5, zx6] [] (hp nS M) Q else am_Wp d 265 180 [.ref 205, .int x1, .int x2, .int x3, zx4, zx5, zx6] [] (hp nS M) Q := by
  refine (eq_run 1 (q := (177, [.ref 205, .int x1, .int x2, .int x3, zx4, zx5, zx6], [.int x2], hp nS M)) (by with_unfolding_all rfl)).trans ?_
  exact eq_if_ne (by with_unfolding_all rfl)
set_option maxRecDepth 20000 in
theorem b_265_180 {d nS : Nat} {x1 x2 x3 : Int32} {zx4 zx5 zx6 : Value} {M : am_M} {Q : Option Value → am_H → Prop} : am_Wp d 265 180 [.ref 205, .int x1, .int x2, .int x3, zx4, zx5, zx6] [] (hp nS M) Q = am_Wp d 265 191 [.ref 205, .int x1, .int x2, .int x3, zx4, zx5, zx6] [.int (M 205 1)] (hp nS M) Q := by
  exact eq_run 3 (q := (191, [.ref 205, .int x1, .int x2, .int x3, zx4, zx5, zx6], [.int (M 205 1)], hp nS M)) (by with_unfolding_all rfl)
set_option maxRecDepth 20000 in
theorem b_265_187 {d nS : Nat} {x1 x2 x3 : Int32} {zx4 zx5 zx6 : Value} {M : am_M} {Q : Option Value → am_H → Prop} : am_Wp d 265 187 [.ref 205, .int x1, .int x2, .int x3, zx4, zx5, zx6] [] (hp nS M) Q = am_Wp d 265 191 [.ref 205, .int x1, .int x2, .int x3, zx4, zx5, zx6] [.int (M 205 2)] (hp nS M) Q := by
  exact eq_run 2 (q := (191, [.ref 205, .int x1, .int x2, .int x3, zx4, zx5, zx6], [.int (M 205 2)], hp nS M)) (by with_unfolding_all rfl)
set_option maxRecDepth 20000 in
theorem b_265_191 {d nS : Nat} {x1 x2 x3 s0 : Int32} {zx4 zx5 zx6 : Value} {M : am_M} {Q : Option Value → am_H → Prop} : am_Wp d 265 191 [.ref 205, .int x1, .int x2, .int x3, zx4, zx5, zx6] [.int s0] (hp nS M) Q = Q (some (.int s0)) (hp nS M) := by
  exact eq_retI2 (e := (.ireturn, 1, 0, 0, 0)) (t := .int) (by with_unfolding_all rfl) rfl (by with_unfolding_all rfl) rfl
-- triesRound(II)V
set_option maxRecDepth 20000 in
theorem b_266_0 {d nS : Nat} {x1 x2 : Int32} {M : am_M} {Q : Option Value → am_H → Prop} : am_Wp d 266 0 [.ref 205, .int x1, .int x2, .retAddr 0, .retAddr 0, .retAddr 0, .retAddr 0, .retAddr 0, .retAddr 0] [] (hp nS M) Q = am_Wp d 266 16 [.ref 205, .int x1, .int x2, .int 1, .int 1, .int x1, .int (1 <<< (x1 &&& 31)), .int x2, .retAddr 0] [] (hp nS M) Q := by
  exact eq_run 12 (q := (16, [.ref 205, .int x1, .int x2, .int 1, .int 1, .int x1, .int (1 <<< (x1 &&& 31)), .int x2, .retAddr 0], [], hp nS M)) (by with_unfolding_all rfl)
set_option maxRecDepth 20000 in
theorem b_266_16 {d nS : Nat} {x1 x2 x3 x4 x5 x6 x7 : Int32} {zx8 : Value} {M : am_M} {Q : Option Value → am_H → Prop} : am_Wp d 266 16 [.ref 205, .int x1, .int x2, .int x3, .int x4, .int x5, .int x6, .int x7, zx8] [] (hp nS M) Q = if x7 ≤ 0 then am_Wp d 266 125 [.ref 205, .int x1, .int x2, .int x3, .int x4, .int x5, .int x6, .int x7, zx8] [] (hp nS M) Q else am_Wp d 266 21 [.ref 205, .int x1, .int x2, .int x3, .int x4, .int x5, .int x6, .int x7, zx8] [] (hp nS M) Q := by
  refine (eq_run 1 (q := (18, [.ref 205, .int x1, .int x2, .int x3, .int x4, .int x5, .int x6, .int x7, zx8], [.int x7], hp nS M)) (by with_unfolding_all rfl)).trans ?_
  exact eq_if_le (by with_unfolding_all rfl)
set_option maxRecDepth 20000 in
theorem b_266_21 {d nS : Nat} {x1 x2 x3 x4 x5 x6 x7 : Int32} {zx8 : Value} {M : am_M} {Q : Option Value → am_H → Prop} : am_Wp (d + 1) 266 21 [.ref 205, .int x1, .int x2, .int x3, .int x4, .int x5, .int x6, .int x7, zx8] [] (hp nS M) Q = am_Wp d 267 0 [.ref 205, .int x6, .int ((x7 - x7 / 10 * 10) - 1)] [] (hp nS M) (fun v h1 => am_Wp (d + 1) 266 38 [.ref 205, .int x1, .int x2, .int x3, .int x4, .int x5, .int x6, .int x7, .int ((x7 - x7 / 10 * 10) - 1)] (am_ans v []) h1 Q) := by
  refine (eq_run 9 (q := (35, [.ref 205, .int x1, .int x2, .int x3, .int x4, .int x5, .int x6, .int x7, .int ((x7 - x7 / 10 * 10) - 1)], [.int ((x7 - x7 / 10 * 10) - 1), .int x6, .ref 205], hp nS M)) (by with_unfolding_all rfl)).trans ?_
  exact eq_call2 (e := (.invokevirtual 425, 3, 0, 267, 349)) (as := [.ref 205, .int x6, .int ((x7 - x7 / 10 * 10) - 1)]) (r := []) (n := 3) (m := 3) (by with_unfolding_all rfl) rfl (by decide) (by with_unfolding_all rfl) (by decide) (by with_unfolding_all rfl) ⟨fun _ => am_rec_ok (c := 14) (by with_unfolding_all rfl) (by decide +kernel), fun z => by simp at z⟩
set_option maxRecDepth 20000 in
theorem b_266_38 {d nS : Nat} {x1 x2 x3 x4 x5 x6 x7 x8 s0 : Int32} {M : am_M} {Q : Option Value → am_H → Prop} : am_Wp d 266 38 [.ref 205, .int x1, .int x2, .int x3, .int x4, .int x5, .int x6, .int x7, .int x8] [.int s0] (hp nS M) Q = if s0 = 0 then am_Wp d 266 48 [.ref 205, .int x1, .int x2, .int x3, .int x4, .int x5, .int x6, .int x7, .int x8] [] (hp nS M) Q else am_Wp d 266 41 [.ref 205, .int x1, .int x2, .int x3, .int x4, .int x5, .int x6, .int x7, .int x8] [] (hp nS M) Q := by
  exact eq_if_eq (by with_unfolding_all rfl)
set_option maxRecDepth 20000 in
theorem b_266_41 {d nS : Nat} {x1 x2 x3 x4 x5 x6 x7 x8 : Int32} {M : am_M} {Q : Option Value → am_H → Prop} : am_Wp d 266 41 [.ref 205, .int x1, .int x2, .int x3, .int x4, .int x5, .int x6, .int x7, .int x8] [] (hp nS M) Q = if 9 < x7 then am_Wp d 266 63 [.ref 205, .int x1, .int x2, .int x3, .int x4, .int x5, .int x6, .int x7, .int x8] [] (hp nS M) Q else am_Wp d 266 48 [.ref 205, .int x1, .int x2, .int x3, .int x4, .int x5, .int x6, .int x7, .int x8] [] (hp nS M) Q := by
  refine (eq_run 2 (q := (45, [.ref 205, .int x1, .int x2, .int x3, .int x4, .int x5, .int x6, .int x7, .int x8], [.int 9, .int x7], hp nS M)) (by with_unfolding_all rfl)).trans ?_
  exact eq_cmp_gt (by with_unfolding_all rfl)
set_option maxRecDepth 20000 in
theorem b_266_48 {d nS : Nat} {x1 x2 x3 x4 x5 x6 x7 x8 : Int32} {M : am_M} {Q : Option Value → am_H → Prop} (h1 : vp_in ((4 * x5) + x8) 16) : am_Wp d 266 48 [.ref 205, .int x1, .int x2, .int x3, .int x4, .int x5, .int x6, .int x7, .int x8] [] (hp nS M) Q = if ¬ (M 229 ((4 * x5) + x8).toNatClampNeg) = 0 then am_Wp d 266 64 [.ref 205, .int x1, .int x2, .int x3, .int x4, .int x5, .int x6, .int x7, .int x8] [] (hp nS M) Q else am_Wp d 266 63 [.ref 205, .int x1, .int x2, .int x3, .int x4, .int x5, .int x6, .int x7, .int x8] [] (hp nS M) Q := by
  refine (eq_run 7 (q := (59, [.ref 205, .int x1, .int x2, .int x3, .int x4, .int x5, .int x6, .int x7, .int x8], [.int ((4 * x5) + x8), .ref 229], hp nS M)) (by with_unfolding_all rfl)).trans ?_
  refine (eq_ald (e := (.iaload, 1, 0, 0, 0)) (by with_unfolding_all rfl) rfl (n := 16) (by with_unfolding_all rfl) h1).trans ?_
  exact eq_if_ne (by with_unfolding_all rfl)
set_option maxRecDepth 20000 in
theorem b_266_63 {d nS : Nat} {x1 x2 x3 x4 x5 x6 x7 x8 : Int32} {M : am_M} {Q : Option Value → am_H → Prop} : am_Wp d 266 63 [.ref 205, .int x1, .int x2, .int x3, .int x4, .int x5, .int x6, .int x7, .int x8] [] (hp nS M) Q = Q none (hp nS M) := by
  exact eq_retV2 (e := (.return_, 1, 0, 0, 0)) (by with_unfolding_all rfl) rfl (by with_unfolding_all rfl)
set_option maxRecDepth 20000 in
theorem b_266_64 {d nS : Nat} {x1 x2 x3 x4 x5 x6 x7 x8 : Int32} {M : am_M} {Q : Option Value → am_H → Prop} (h1 : vp_in ((4 * x5) + x8) 16) (h2 : vp_in ((4 * x5) + x8) 16) : am_Wp d 266 64 [.ref 205, .int x1, .int x2, .int x3, .int x4, .int x5, .int x6, .int x7, .int x8] [] (hp nS M) Q = am_Wp d 266 16 [.ref 205, .int x1, .int x2, .int (x3 * ((M 229 ((4 * x5) + x8).toNatClampNeg) / 10)), .int (x4 * ((M 229 ((4 * x5) + x8).toNatClampNeg) - (M 229 ((4 * x5) + x8).toNatClampNeg) / 10 * 10)), .int x8, .int (x6 ||| (1 <<< (x8 &&& 31))), .int (x7 / 10), .int x8] [] (hp nS M) Q := by
  refine (eq_run 14 (q := (85, [.ref 205, .int x1, .int x2, .int x3, .int x4, .int x5, .int (x6 ||| (1 <<< (x8 &&& 31))), .int x7, .int x8], [.int ((4 * x5) + x8), .ref 229, .int x3], hp nS M)) (by with_unfolding_all rfl)).trans ?_
  refine (eq_ald (e := (.iaload, 1, 0, 0, 0)) (by with_unfolding_all rfl) rfl (n := 16) (by with_unfolding_all rfl) h1).trans ?_
  refine (eq_run 12 (q := (104, [.ref 205, .int x1, .int x2, .int (x3 * ((M 229 ((4 * x5) + x8).toNatClampNeg) / 10)), .int x4, .int x5, .int (x6 ||| (1 <<< (x8 &&& 31))), .int x7, .int x8], [.int ((4 * x5) + x8), .ref 229, .int x4], hp nS M)) (by with_unfolding_all rfl)).trans ?_
  refine (eq_ald (e := (.iaload, 1, 0, 0, 0)) (by with_unfolding_all rfl) rfl (n := 16) (by with_unfolding_all rfl) h2).trans ?_
  exact eq_run 11 (q := (16, [.ref 205, .int x1, .int x2, .int (x3 * ((M 229 ((4 * x5) + x8).toNatClampNeg) / 10)), .int (x4 * ((M 229 ((4 * x5) + x8).toNatClampNeg) - (M 229 ((4 * x5) + x8).toNatClampNeg) / 10 * 10)), .int x8, .int (x6 ||| (1 <<< (x8 &&& 31))), .int (x7 / 10), .int x8], [], hp nS M)) (by with_unfolding_all rfl)
set_option maxRecDepth 20000 in
theorem b_266_125 {d nS : Nat} {x1 x2 x3 x4 x5 x6 x7 : Int32} {zx8 : Value} {M : am_M} {Q : Option Value → am_H → Prop} : am_Wp d 266 125 [.ref 205, .int x1, .int x2, .int x3, .int x4, .int x5, .int x6, .int x7, zx8] [] (hp nS M) Q = if (M 205 2) = 0 then am_Wp d 266 149 [.ref 205, .int x1, .int x2, .int x3, .int x4, .int x5, .int x6, .int x7, zx8] [] (hp nS M) Q else am_Wp d 266 132 [.ref 205, .int x1, .int x2, .int x3, .int x4, .int x5, .int x6, .int x7, zx8] [] (hp nS M) Q := by
  refine (eq_run 2 (q := (129, [.ref 205, .int x1, .int x2, .int x3, .int x4, .int x5, .int x6, .int x7, zx8], [.int (M 205 2)], hp nS M)) (by with_unfolding_all rfl)).trans ?_
  exact eq_if_eq (by with_unfolding_all rfl)
set_option maxRecDepth 20000 in
theorem b_266_132 {d nS : Nat} {x1 x2 x3 x4 x5 x6 x7 : Int32} {zx8 : Value} {M : am_M} {Q : Option Value → am_H → Prop} : am_Wp d 266 132 [.ref 205, .int x1, .int x2, .int x3, .int x4, .int x5, .int x6, .int x7, zx8] [] (hp nS M) Q = if ((M 205 1) * x4) < (x3 * (M 205 2)) then am_Wp d 266 149 [.ref 205, .int x1, .int x2, .int x3, .int x4, .int x5, .int x6, .int x7, zx8] [] (hp nS M) Q else am_Wp d 266 148 [.ref 205, .int x1, .int x2, .int x3, .int x4, .int x5, .int x6, .int x7, zx8] [] (hp nS M) Q := by
  refine (eq_run 8 (q := (145, [.ref 205, .int x1, .int x2, .int x3, .int x4, .int x5, .int x6, .int x7, zx8], [.int ((M 205 1) * x4), .int (x3 * (M 205 2))], hp nS M)) (by with_unfolding_all rfl)).trans ?_
  exact eq_cmp_gt (by with_unfolding_all rfl)
set_option maxRecDepth 20000 in
theorem b_266_148 {d nS : Nat} {x1 x2 x3 x4 x5 x6 x7 : Int32} {zx8 : Value} {M : am_M} {Q : Option Value → am_H → Prop} : am_Wp d 266 148 [.ref 205, .int x1, .int x2, .int x3, .int x4, .int x5, .int x6, .int x7, zx8] [] (hp nS M) Q = Q none (hp nS M) := by
  exact eq_retV2 (e := (.return_, 1, 0, 0, 0)) (by with_unfolding_all rfl) rfl (by with_unfolding_all rfl)
set_option maxRecDepth 20000 in
theorem b_266_149 {d nS : Nat} {x1 x2 x3 x4 x5 x6 x7 : Int32} {zx8 : Value} {M : am_M} {Q : Option Value → am_H → Prop} : am_Wp (d + 1) 266 149 [.ref 205, .int x1, .int x2, .int x3, .int x4, .int x5, .int x6, .int x7, zx8] [] (hp nS M) Q = am_Wp d 268 0 [.ref 205, .int x3, .int x4, .retAddr 0] [] (hp nS M) (fun v h1 => am_Wp (d + 1) 266 156 [.ref 205, .int x1, .int x2, .int x3, .int x4, .int x5, .int x6, .int x7, zx8] (am_ans v []) h1 Q) := by
  refine (eq_run 3 (q := (153, [.ref 205, .int x1, .int x2, .int x3, .int x4, .int x5, .int x6, .int x7, zx8], [.int x4, .int x3, .ref 205], hp nS M)) (by with_unfolding_all rfl)).trans ?_
  exact eq_call2 (e := (.invokevirtual 429, 3, 0, 268, 350)) (as := [.ref 205, .int x3, .int x4]) (r := []) (n := 3) (m := 4) (by with_unfolding_all rfl) rfl (by decide) (by with_unfolding_all rfl) (by decide) (by with_unfolding_all rfl) ⟨fun _ => am_rec_ok (c := 14) (by with_unfolding_all rfl) (by decide +kernel), fun z => by simp at z⟩
set_option maxRecDepth 20000 in
theorem b_266_156 {d nS : Nat} {x1 x2 x3 x4 x5 x6 x7 : Int32} {zx8 : Value} {M : am_M} {Q : Option Value → am_H → Prop} : am_Wp d 266 156 [.ref 205, .int x1, .int x2, .int x3, .int x4, .int x5, .int x6, .int x7, zx8] [] (hp nS M) Q = Q none (hp nS M) := by
  exact eq_retV2 (e := (.return_, 1, 0, 0, 0)) (by with_unfolding_all rfl) rfl (by with_unfolding_all rfl)
-- has(II)Z
set_option maxRecDepth 20000 in
theorem b_267_0 {d nS : Nat} {x1 x2 : Int32} {M : am_M} {Q : Option Value → am_H → Prop} : am_Wp d 267 0 [.ref 205, .int x1, .int x2] [] (hp nS M) Q = if ¬ ((x1 >>> (x2 &&& 31)) &&& 1) = 1 then am_Wp d 267 13 [.ref 205, .int x1, .int x2] [] (hp nS M) Q else am_Wp d 267 9 [.ref 205, .int x1, .int x2] [] (hp nS M) Q := by
  refine (eq_run 6 (q := (6, [.ref 205, .int x1, .int x2], [.int 1, .int ((x1 >>> (x2 &&& 31)) &&& 1)], hp nS M)) (by with_unfolding_all rfl)).trans ?_
  exact eq_cmp_ne (by with_unfolding_all rfl)
set_option maxRecDepth 20000 in
theorem b_267_9 {d nS : Nat} {x1 x2 : Int32} {M : am_M} {Q : Option Value → am_H → Prop} : am_Wp d 267 9 [.ref 205, .int x1, .int x2] [] (hp nS M) Q = am_Wp d 267 14 [.ref 205, .int x1, .int x2] [.int 1] (hp nS M) Q := by
  exact eq_run 2 (q := (14, [.ref 205, .int x1, .int x2], [.int 1], hp nS M)) (by with_unfolding_all rfl)
set_option maxRecDepth 20000 in
theorem b_267_13 {d nS : Nat} {x1 x2 : Int32} {M : am_M} {Q : Option Value → am_H → Prop} : am_Wp d 267 13 [.ref 205, .int x1, .int x2] [] (hp nS M) Q = am_Wp d 267 14 [.ref 205, .int x1, .int x2] [.int 0] (hp nS M) Q := by
  exact eq_run 1 (q := (14, [.ref 205, .int x1, .int x2], [.int 0], hp nS M)) (by with_unfolding_all rfl)
set_option maxRecDepth 20000 in
theorem b_267_14 {d nS : Nat} {x1 x2 s0 : Int32} {M : am_M} {Q : Option Value → am_H → Prop} (h1 : am_rok .boolean s0 = true) : am_Wp d 267 14 [.ref 205, .int x1, .int x2] [.int s0] (hp nS M) Q = Q (some (.int s0)) (hp nS M) := by
  exact eq_retI2 (e := (.ireturn, 1, 0, 0, 0)) (t := .boolean) (by with_unfolding_all rfl) rfl (by with_unfolding_all rfl) h1
-- isFraction(II)V
set_option maxRecDepth 20000 in
theorem b_268_0 {d nS : Nat} {x1 x2 : Int32} {M : am_M} {Q : Option Value → am_H → Prop} : am_Wp (d + 1) 268 0 [.ref 205, .int x1, .int x2, .retAddr 0] [] (hp nS M) Q = am_Wp d 269 0 [.ref 205, .int x1, .int x2, .retAddr 0, .retAddr 0, .retAddr 0] [] (hp nS M) (fun v h1 => am_Wp (d + 1) 268 6 [.ref 205, .int x1, .int x2, .retAddr 0] (am_ans v []) h1 Q) := by
  refine (eq_run 3 (q := (3, [.ref 205, .int x1, .int x2, .retAddr 0], [.int x2, .int x1, .ref 205], hp nS M)) (by with_unfolding_all rfl)).trans ?_
  exact eq_call2 (e := (.invokevirtual 116, 3, 0, 269, 274)) (as := [.ref 205, .int x1, .int x2]) (r := []) (n := 3) (m := 6) (by with_unfolding_all rfl) rfl (by decide) (by with_unfolding_all rfl) (by decide) (by with_unfolding_all rfl) ⟨fun _ => am_rec_ok (c := 14) (by with_unfolding_all rfl) (by decide +kernel), fun z => by simp at z⟩
set_option maxRecDepth 20000 in
theorem b_268_6 {d nS : Nat} {x1 x2 s0 : Int32} {M : am_M} {Q : Option Value → am_H → Prop} (h1 : ¬ s0 = 0) (h2 : ¬ s0 = 0) : am_Wp d 268 6 [.ref 205, .int x1, .int x2, .retAddr 0] [.int s0] (hp nS M) Q = Q none (hp nS (am_up (am_up M 205 1 (x1 / s0)) 205 2 (x2 / s0))) := by
  refine (eq_run 4 (q := (10, [.ref 205, .int x1, .int x2, .int s0], [.int s0, .int x1, .ref 205], hp nS M)) (by with_unfolding_all rfl)).trans ?_
  refine (eq_div (e := (.idiv, 1, 0, 0, 0)) (by with_unfolding_all rfl) rfl h1).trans ?_
  refine (eq_run 4 (q := (17, [.ref 205, .int x1, .int x2, .int s0], [.int s0, .int x2, .ref 205], hp nS (am_up M 205 1 (x1 / s0)))) (by with_unfolding_all rfl)).trans ?_
  refine (eq_div (e := (.idiv, 1, 0, 0, 0)) (by with_unfolding_all rfl) rfl h2).trans ?_
  refine (eq_run 1 (q := (21, [.ref 205, .int x1, .int x2, .int s0], [], hp nS (am_up (am_up M 205 1 (x1 / s0)) 205 2 (x2 / s0)))) (by with_unfolding_all rfl)).trans ?_
  exact eq_retV2 (e := (.return_, 1, 0, 0, 0)) (by with_unfolding_all rfl) rfl (by with_unfolding_all rfl)
-- common(II)I
set_option maxRecDepth 20000 in
theorem b_269_0 {d nS : Nat} {x1 x2 : Int32} {M : am_M} {Q : Option Value → am_H → Prop} : am_Wp d 269 0 [.ref 205, .int x1, .int x2, .retAddr 0, .retAddr 0, .retAddr 0] [] (hp nS M) Q = am_Wp d 269 5 [.ref 205, .int x1, .int x2, .int x1, .int x2, .retAddr 0] [] (hp nS M) Q := by
  exact eq_run 4 (q := (5, [.ref 205, .int x1, .int x2, .int x1, .int x2, .retAddr 0], [], hp nS M)) (by with_unfolding_all rfl)
set_option maxRecDepth 20000 in
theorem b_269_5 {d nS : Nat} {x1 x2 x3 x4 : Int32} {zx5 : Value} {M : am_M} {Q : Option Value → am_H → Prop} : am_Wp d 269 5 [.ref 205, .int x1, .int x2, .int x3, .int x4, zx5] [] (hp nS M) Q = if x4 = 0 then am_Wp d 269 26 [.ref 205, .int x1, .int x2, .int x3, .int x4, zx5] [] (hp nS M) Q else am_Wp d 269 10 [.ref 205, .int x1, .int x2, .int x3, .int x4, zx5] [] (hp nS M) Q := by
  refine (eq_run 1 (q := (7, [.ref 205, .int x1, .int x2, .int x3, .int x4, zx5], [.int x4], hp nS M)) (by with_unfolding_all rfl)).trans ?_
  exact eq_if_eq (by with_unfolding_all rfl)
set_option maxRecDepth 20000 in
theorem b_269_10 {d nS : Nat} {x1 x2 x3 x4 : Int32} {zx5 : Value} {M : am_M} {Q : Option Value → am_H → Prop} (h1 : ¬ x4 = 0) : am_Wp d 269 10 [.ref 205, .int x1, .int x2, .int x3, .int x4, zx5] [] (hp nS M) Q = am_Wp d 269 5 [.ref 205, .int x1, .int x2, .int x4, .int (x3 - x3 / x4 * x4), .int (x3 - x3 / x4 * x4)] [] (hp nS M) Q := by
  refine (eq_run 2 (q := (13, [.ref 205, .int x1, .int x2, .int x3, .int x4, zx5], [.int x4, .int x3], hp nS M)) (by with_unfolding_all rfl)).trans ?_
  refine (eq_rem (e := (.irem, 1, 0, 0, 0)) (by with_unfolding_all rfl) rfl h1).trans ?_
  exact eq_run 6 (q := (5, [.ref 205, .int x1, .int x2, .int x4, .int (x3 - x3 / x4 * x4), .int (x3 - x3 / x4 * x4)], [], hp nS M)) (by with_unfolding_all rfl)
set_option maxRecDepth 20000 in
theorem b_269_26 {d nS : Nat} {x1 x2 x3 x4 : Int32} {zx5 : Value} {M : am_M} {Q : Option Value → am_H → Prop} : am_Wp d 269 26 [.ref 205, .int x1, .int x2, .int x3, .int x4, zx5] [] (hp nS M) Q = Q (some (.int x3)) (hp nS M) := by
  refine (eq_run 1 (q := (27, [.ref 205, .int x1, .int x2, .int x3, .int x4, zx5], [.int x3], hp nS M)) (by with_unfolding_all rfl)).trans ?_
  exact eq_retI2 (e := (.ireturn, 1, 0, 0, 0)) (t := .int) (by with_unfolding_all rfl) rfl (by with_unfolding_all rfl) rfl
-- parts(III)I
set_option maxRecDepth 20000 in
theorem b_270_0 {d nS : Nat} {x1 x2 x3 : Int32} {M : am_M} {Q : Option Value → am_H → Prop} : am_Wp (d + 1) 270 0 [.ref 205, .int x1, .int x2, .int x3, .retAddr 0, .retAddr 0, .retAddr 0, .retAddr 0, .retAddr 0, .retAddr 0] [] (hp nS M) Q = am_Wp d 171 0 [.ref 205, .int x2, .int 1, .int 12] [] (hp nS (am_up M 205 0 0)) (fun v h1 => am_Wp (d + 1) 270 13 [.ref 205, .int x1, .int x2, .int x3, .retAddr 0, .retAddr 0, .retAddr 0, .retAddr 0, .retAddr 0, .retAddr 0] (am_ans v []) h1 Q) := by
  refine (eq_run 7 (q := (10, [.ref 205, .int x1, .int x2, .int x3, .retAddr 0, .retAddr 0, .retAddr 0, .retAddr 0, .retAddr 0, .retAddr 0], [.int 12, .int 1, .int x2, .ref 205], hp nS (am_up M 205 0 0))) (by with_unfolding_all rfl)).trans ?_
  exact eq_call2 (e := (.invokevirtual 144, 3, 0, 171, 275)) (as := [.ref 205, .int x2, .int 1, .int 12]) (r := []) (n := 4) (m := 4) (by with_unfolding_all rfl) rfl (by decide) (by with_unfolding_all rfl) (by decide) (by with_unfolding_all rfl) ⟨fun _ => am_rec_ok (c := 14) (by with_unfolding_all rfl) (by decide +kernel), fun z => by simp at z⟩
set_option maxRecDepth 20000 in
theorem b_270_13 {d nS : Nat} {x1 x2 x3 s0 : Int32} {M : am_M} {Q : Option Value → am_H → Prop} : am_Wp d 270 13 [.ref 205, .int x1, .int x2, .int x3, .retAddr 0, .retAddr 0, .retAddr 0, .retAddr 0, .retAddr 0, .retAddr 0] [.int s0] (hp nS M) Q = if s0 = 0 then am_Wp d 270 38 [.ref 205, .int x1, .int x2, .int x3, .retAddr 0, .retAddr 0, .retAddr 0, .retAddr 0, .retAddr 0, .retAddr 0] [] (hp nS M) Q else am_Wp d 270 16 [.ref 205, .int x1, .int x2, .int x3, .retAddr 0, .retAddr 0, .retAddr 0, .retAddr 0, .retAddr 0, .retAddr 0] [] (hp nS M) Q := by
  exact eq_if_eq (by with_unfolding_all rfl)
set_option maxRecDepth 20000 in
theorem b_270_16 {d nS : Nat} {x1 x2 x3 : Int32} {M : am_M} {Q : Option Value → am_H → Prop} : am_Wp (d + 1) 270 16 [.ref 205, .int x1, .int x2, .int x3, .retAddr 0, .retAddr 0, .retAddr 0, .retAddr 0, .retAddr 0, .retAddr 0] [] (hp nS M) Q = am_Wp d 171 0 [.ref 205, .int x1, .int 1, .int (x2 - 1)] [] (hp nS M) (fun v h1 => am_Wp (d + 1) 270 25 [.ref 205, .int x1, .int x2, .int x3, .retAddr 0, .retAddr 0, .retAddr 0, .retAddr 0, .retAddr 0, .retAddr 0] (am_ans v []) h1 Q) := by
  refine (eq_run 6 (q := (22, [.ref 205, .int x1, .int x2, .int x3, .retAddr 0, .retAddr 0, .retAddr 0, .retAddr 0, .retAddr 0, .retAddr 0], [.int (x2 - 1), .int 1, .int x1, .ref 205], hp nS M)) (by with_unfolding_all rfl)).trans ?_
  exact eq_call2 (e := (.invokevirtual 144, 3, 0, 171, 275)) (as := [.ref 205, .int x1, .int 1, .int (x2 - 1)]) (r := []) (n := 4) (m := 4) (by with_unfolding_all rfl) rfl (by decide) (by with_unfolding_all rfl) (by decide) (by with_unfolding_all rfl) ⟨fun _ => am_rec_ok (c := 14) (by with_unfolding_all rfl) (by decide +kernel), fun z => by simp at z⟩
set_option maxRecDepth 20000 in
theorem b_270_25 {d nS : Nat} {x1 x2 x3 s0 : Int32} {M : am_M} {Q : Option Value → am_H → Prop} : am_Wp d 270 25 [.ref 205, .int x1, .int x2, .int x3, .retAddr 0, .retAddr 0, .retAddr 0, .retAddr 0, .retAddr 0, .retAddr 0] [.int s0] (hp nS M) Q = if s0 = 0 then am_Wp d 270 38 [.ref 205, .int x1, .int x2, .int x3, .retAddr 0, .retAddr 0, .retAddr 0, .retAddr 0, .retAddr 0, .retAddr 0] [] (hp nS M) Q else am_Wp d 270 28 [.ref 205, .int x1, .int x2, .int x3, .retAddr 0, .retAddr 0, .retAddr 0, .retAddr 0, .retAddr 0, .retAddr 0] [] (hp nS M) Q := by
  exact eq_if_eq (by with_unfolding_all rfl)
set_option maxRecDepth 20000 in
theorem b_270_28 {d nS : Nat} {x1 x2 x3 : Int32} {M : am_M} {Q : Option Value → am_H → Prop} : am_Wp (d + 1) 270 28 [.ref 205, .int x1, .int x2, .int x3, .retAddr 0, .retAddr 0, .retAddr 0, .retAddr 0, .retAddr 0, .retAddr 0] [] (hp nS M) Q = am_Wp d 171 0 [.ref 205, .int x3, .int 0, .int 4] [] (hp nS M) (fun v h1 => am_Wp (d + 1) 270 35 [.ref 205, .int x1, .int x2, .int x3, .retAddr 0, .retAddr 0, .retAddr 0, .retAddr 0, .retAddr 0, .retAddr 0] (am_ans v []) h1 Q) := by
  refine (eq_run 4 (q := (32, [.ref 205, .int x1, .int x2, .int x3, .retAddr 0, .retAddr 0, .retAddr 0, .retAddr 0, .retAddr 0, .retAddr 0], [.int 4, .int 0, .int x3, .ref 205], hp nS M)) (by with_unfolding_all rfl)).trans ?_
  exact eq_call2 (e := (.invokevirtual 144, 3, 0, 171, 275)) (as := [.ref 205, .int x3, .int 0, .int 4]) (r := []) (n := 4) (m := 4) (by with_unfolding_all rfl) rfl (by decide) (by with_unfolding_all rfl) (by decide) (by with_unfolding_all rfl) ⟨fun _ => am_rec_ok (c := 14) (by with_unfolding_all rfl) (by decide +kernel), fun z => by simp at z⟩
set_option maxRecDepth 20000 in
theorem b_270_35 {d nS : Nat} {x1 x2 x3 s0 : Int32} {M : am_M} {Q : Option Value → am_H → Prop} : am_Wp d 270 35 [.ref 205, .int x1, .int x2, .int x3, .retAddr 0, .retAddr 0, .retAddr 0, .retAddr 0, .retAddr 0, .retAddr 0] [.int s0] (hp nS M) Q = if ¬ s0 = 0 then am_Wp d 270 40 [.ref 205, .int x1, .int x2, .int x3, .retAddr 0, .retAddr 0, .retAddr 0, .retAddr 0, .retAddr 0, .retAddr 0] [] (hp nS M) Q else am_Wp d 270 38 [.ref 205, .int x1, .int x2, .int x3, .retAddr 0, .retAddr 0, .retAddr 0, .retAddr 0, .retAddr 0, .retAddr 0] [] (hp nS M) Q := by
  exact eq_if_ne (by with_unfolding_all rfl)
set_option maxRecDepth 20000 in
theorem b_270_38 {d nS : Nat} {x1 x2 x3 : Int32} {M : am_M} {Q : Option Value → am_H → Prop} : am_Wp d 270 38 [.ref 205, .int x1, .int x2, .int x3, .retAddr 0, .retAddr 0, .retAddr 0, .retAddr 0, .retAddr 0, .retAddr 0] [] (hp nS M) Q = Q (some (.int (-1))) (hp nS M) := by
  refine (eq_run 1 (q := (39, [.ref 205, .int x1, .int x2, .int x3, .retAddr 0, .retAddr 0, .retAddr 0, .retAddr 0, .retAddr 0, .retAddr 0], [.int (-1)], hp nS M)) (by with_unfolding_all rfl)).trans ?_
  exact eq_retI2 (e := (.ireturn, 1, 0, 0, 0)) (t := .int) (by with_unfolding_all rfl) rfl (by with_unfolding_all rfl) rfl
set_option maxRecDepth 20000 in
theorem b_270_40 {d nS : Nat} {x1 x2 x3 : Int32} {M : am_M} {Q : Option Value → am_H → Prop} : am_Wp d 270 40 [.ref 205, .int x1, .int x2, .int x3, .retAddr 0, .retAddr 0, .retAddr 0, .retAddr 0, .retAddr 0, .retAddr 0] [] (hp nS M) Q = am_Wp d 270 49 [.ref 205, .int x1, .int x2, .int x3, .int x1, .int x2, .int 0, .retAddr 0, .retAddr 0, .retAddr 0] [] (hp nS M) Q := by
  exact eq_run 6 (q := (49, [.ref 205, .int x1, .int x2, .int x3, .int x1, .int x2, .int 0, .retAddr 0, .retAddr 0, .retAddr 0], [], hp nS M)) (by with_unfolding_all rfl)
set_option maxRecDepth 20000 in
theorem b_270_49 {d nS : Nat} {x1 x2 x3 x4 x5 x6 : Int32} {zx7 zx8 zx9 : Value} {M : am_M} {Q : Option Value → am_H → Prop} : am_Wp d 270 49 [.ref 205, .int x1, .int x2, .int x3, .int x4, .int x5, .int x6, zx7, zx8, zx9] [] (hp nS M) Q = if x4 ≤ 0 then am_Wp d 270 126 [.ref 205, .int x1, .int x2, .int x3, .int x4, .int x5, .int x6, zx7, zx8, zx9] [] (hp nS M) Q else am_Wp d 270 54 [.ref 205, .int x1, .int x2, .int x3, .int x4, .int x5, .int x6, zx7, zx8, zx9] [] (hp nS M) Q := by
  refine (eq_run 1 (q := (51, [.ref 205, .int x1, .int x2, .int x3, .int x4, .int x5, .int x6, zx7, zx8, zx9], [.int x4], hp nS M)) (by with_unfolding_all rfl)).trans ?_
  exact eq_if_le (by with_unfolding_all rfl)
set_option maxRecDepth 20000 in
theorem b_270_54 {d nS : Nat} {x1 x2 x3 x4 x5 x6 : Int32} {zx7 zx8 zx9 : Value} {M : am_M} {Q : Option Value → am_H → Prop} (h1 : ¬ x4 = 0) : am_Wp d 270 54 [.ref 205, .int x1, .int x2, .int x3, .int x4, .int x5, .int x6, zx7, zx8, zx9] [] (hp nS M) Q = if ¬ x3 = (x6 + 1) then am_Wp d 270 77 [.ref 205, .int x1, .int x2, .int x3, .int x4, .int x5, .int x6, .int (((x5 + x4) - 1) / x4), zx8, zx9] [] (hp nS M) Q else am_Wp d 270 74 [.ref 205, .int x1, .int x2, .int x3, .int x4, .int x5, .int x6, .int (((x5 + x4) - 1) / x4), zx8, zx9] [] (hp nS M) Q := by
  refine (eq_run 6 (q := (63, [.ref 205, .int x1, .int x2, .int x3, .int x4, .int x5, .int x6, zx7, zx8, zx9], [.int x4, .int ((x5 + x4) - 1)], hp nS M)) (by with_unfolding_all rfl)).trans ?_
  refine (eq_div (e := (.idiv, 1, 0, 0, 0)) (by with_unfolding_all rfl) rfl h1).trans ?_
  refine (eq_run 5 (q := (71, [.ref 205, .int x1, .int x2, .int x3, .int x4, .int x5, .int x6, .int (((x5 + x4) - 1) / x4), zx8, zx9], [.int (x6 + 1), .int x3], hp nS M)) (by with_unfolding_all rfl)).trans ?_
  exact eq_cmp_ne (by with_unfolding_all rfl)
set_option maxRecDepth 20000 in
theorem b_270_74 {d nS : Nat} {x1 x2 x3 x4 x5 x6 x7 : Int32} {zx8 zx9 : Value} {M : am_M} {Q : Option Value → am_H → Prop} : am_Wp d 270 74 [.ref 205, .int x1, .int x2, .int x3, .int x4, .int x5, .int x6, .int x7, zx8, zx9] [] (hp nS M) Q = Q (some (.int x7)) (hp nS M) := by
  refine (eq_run 1 (q := (76, [.ref 205, .int x1, .int x2, .int x3, .int x4, .int x5, .int x6, .int x7, zx8, zx9], [.int x7], hp nS M)) (by with_unfolding_all rfl)).trans ?_
  exact eq_retI2 (e := (.ireturn, 1, 0, 0, 0)) (t := .int) (by with_unfolding_all rfl) rfl (by with_unfolding_all rfl) rfl
set_option maxRecDepth 20000 in
theorem b_270_77 {d nS : Nat} {x1 x2 x3 x4 x5 x6 x7 : Int32} {zx8 zx9 : Value} {M : am_M} {Q : Option Value → am_H → Prop} : am_Wp (d + 1) 270 77 [.ref 205, .int x1, .int x2, .int x3, .int x4, .int x5, .int x6, .int x7, zx8, zx9] [] (hp nS M) Q = am_Wp d 269 0 [.ref 205, .int (x5 * x7), .int ((x4 * x7) - x5), .retAddr 0, .retAddr 0, .retAddr 0] [] (hp nS M) (fun v h1 => am_Wp (d + 1) 270 104 [.ref 205, .int x1, .int x2, .int x3, .int x4, .int x5, .int (x6 + 1), .int x7, .int ((x4 * x7) - x5), zx9] (am_ans v []) h1 Q) := by
  refine (eq_run 15 (q := (101, [.ref 205, .int x1, .int x2, .int x3, .int x4, .int x5, .int (x6 + 1), .int x7, .int ((x4 * x7) - x5), zx9], [.int ((x4 * x7) - x5), .int (x5 * x7), .ref 205], hp nS M)) (by with_unfolding_all rfl)).trans ?_
  exact eq_call2 (e := (.invokevirtual 116, 3, 0, 269, 274)) (as := [.ref 205, .int (x5 * x7), .int ((x4 * x7) - x5)]) (r := []) (n := 3) (m := 6) (by with_unfolding_all rfl) rfl (by decide) (by with_unfolding_all rfl) (by decide) (by with_unfolding_all rfl) ⟨fun _ => am_rec_ok (c := 14) (by with_unfolding_all rfl) (by decide +kernel), fun z => by simp at z⟩
set_option maxRecDepth 20000 in
theorem b_270_104 {d nS : Nat} {x1 x2 x3 x4 x5 x6 x7 x8 s0 : Int32} {zx9 : Value} {M : am_M} {Q : Option Value → am_H → Prop} (h1 : ¬ s0 = 0) (h2 : ¬ s0 = 0) : am_Wp d 270 104 [.ref 205, .int x1, .int x2, .int x3, .int x4, .int x5, .int x6, .int x7, .int x8, zx9] [.int s0] (hp nS M) Q = am_Wp d 270 49 [.ref 205, .int x1, .int x2, .int x3, .int (x8 / s0), .int ((x5 * x7) / s0), .int x6, .int x7, .int x8, .int s0] [] (hp nS M) Q := by
  refine (eq_run 3 (q := (110, [.ref 205, .int x1, .int x2, .int x3, .int x4, .int x5, .int x6, .int x7, .int x8, .int s0], [.int s0, .int x8], hp nS M)) (by with_unfolding_all rfl)).trans ?_
  refine (eq_div (e := (.idiv, 1, 0, 0, 0)) (by with_unfolding_all rfl) rfl h1).trans ?_
  refine (eq_run 5 (q := (120, [.ref 205, .int x1, .int x2, .int x3, .int (x8 / s0), .int x5, .int x6, .int x7, .int x8, .int s0], [.int s0, .int (x5 * x7)], hp nS M)) (by with_unfolding_all rfl)).trans ?_
  refine (eq_div (e := (.idiv, 1, 0, 0, 0)) (by with_unfolding_all rfl) rfl h2).trans ?_
  exact eq_run 2 (q := (49, [.ref 205, .int x1, .int x2, .int x3, .int (x8 / s0), .int ((x5 * x7) / s0), .int x6, .int x7, .int x8, .int s0], [], hp nS M)) (by with_unfolding_all rfl)
set_option maxRecDepth 20000 in
theorem b_270_126 {d nS : Nat} {x1 x2 x3 x4 x5 x6 : Int32} {zx7 zx8 zx9 : Value} {M : am_M} {Q : Option Value → am_H → Prop} : am_Wp d 270 126 [.ref 205, .int x1, .int x2, .int x3, .int x4, .int x5, .int x6, zx7, zx8, zx9] [] (hp nS M) Q = if ¬ x3 = 0 then am_Wp d 270 135 [.ref 205, .int x1, .int x2, .int x3, .int x4, .int x5, .int x6, zx7, zx8, zx9] [] (hp nS M) Q else am_Wp d 270 130 [.ref 205, .int x1, .int x2, .int x3, .int x4, .int x5, .int x6, zx7, zx8, zx9] [] (hp nS M) Q := by
  refine (eq_run 1 (q := (127, [.ref 205, .int x1, .int x2, .int x3, .int x4, .int x5, .int x6, zx7, zx8, zx9], [.int x3], hp nS M)) (by with_unfolding_all rfl)).trans ?_
  exact eq_if_ne (by with_unfolding_all rfl)
set_option maxRecDepth 20000 in
theorem b_270_130 {d nS : Nat} {x1 x2 x3 x4 x5 x6 : Int32} {zx7 zx8 zx9 : Value} {M : am_M} {Q : Option Value → am_H → Prop} : am_Wp d 270 130 [.ref 205, .int x1, .int x2, .int x3, .int x4, .int x5, .int x6, zx7, zx8, zx9] [] (hp nS M) Q = am_Wp d 270 136 [.ref 205, .int x1, .int x2, .int x3, .int x4, .int x5, .int x6, zx7, zx8, zx9] [.int x6] (hp nS M) Q := by
  exact eq_run 2 (q := (136, [.ref 205, .int x1, .int x2, .int x3, .int x4, .int x5, .int x6, zx7, zx8, zx9], [.int x6], hp nS M)) (by with_unfolding_all rfl)
set_option maxRecDepth 20000 in
theorem b_270_135 {d nS : Nat} {x1 x2 x3 x4 x5 x6 : Int32} {zx7 zx8 zx9 : Value} {M : am_M} {Q : Option Value → am_H → Prop} : am_Wp d 270 135 [.ref 205, .int x1, .int x2, .int x3, .int x4, .int x5, .int x6, zx7, zx8, zx9] [] (hp nS M) Q = am_Wp d 270 136 [.ref 205, .int x1, .int x2, .int x3, .int x4, .int x5, .int x6, zx7, zx8, zx9] [.int (-1)] (hp nS M) Q := by
  exact eq_run 1 (q := (136, [.ref 205, .int x1, .int x2, .int x3, .int x4, .int x5, .int x6, zx7, zx8, zx9], [.int (-1)], hp nS M)) (by with_unfolding_all rfl)
set_option maxRecDepth 20000 in
theorem b_270_136 {d nS : Nat} {x1 x2 x3 x4 x5 x6 s0 : Int32} {zx7 zx8 zx9 : Value} {M : am_M} {Q : Option Value → am_H → Prop} : am_Wp d 270 136 [.ref 205, .int x1, .int x2, .int x3, .int x4, .int x5, .int x6, zx7, zx8, zx9] [.int s0] (hp nS M) Q = Q (some (.int s0)) (hp nS M) := by
  exact eq_retI2 (e := (.ireturn, 1, 0, 0, 0)) (t := .int) (by with_unfolding_all rfl) rfl (by with_unfolding_all rfl) rfl
-- loaves(III)I
set_option maxRecDepth 20000 in
theorem b_271_0 {d nS : Nat} {x1 x2 x3 : Int32} {M : am_M} {Q : Option Value → am_H → Prop} : am_Wp (d + 1) 271 0 [.ref 205, .int x1, .int x2, .int x3, .retAddr 0] [] (hp nS M) Q = am_Wp d 171 0 [.ref 205, .int x1, .int 1, .int 60] [] (hp nS (am_up M 205 0 0)) (fun v h1 => am_Wp (d + 1) 271 13 [.ref 205, .int x1, .int x2, .int x3, .retAddr 0] (am_ans v []) h1 Q) := by
  refine (eq_run 7 (q := (10, [.ref 205, .int x1, .int x2, .int x3, .retAddr 0], [.int 60, .int 1, .int x1, .ref 205], hp nS (am_up M 205 0 0))) (by with_unfolding_all rfl)).trans ?_
  exact eq_call2 (e := (.invokevirtual 144, 3, 0, 171, 275)) (as := [.ref 205, .int x1, .int 1, .int 60]) (r := []) (n := 4) (m := 4) (by with_unfolding_all rfl) rfl (by decide) (by with_unfolding_all rfl) (by decide) (by with_unfolding_all rfl) ⟨fun _ => am_rec_ok (c := 14) (by with_unfolding_all rfl) (by decide +kernel), fun z => by simp at z⟩
set_option maxRecDepth 20000 in
theorem b_271_13 {d nS : Nat} {x1 x2 x3 s0 : Int32} {M : am_M} {Q : Option Value → am_H → Prop} : am_Wp d 271 13 [.ref 205, .int x1, .int x2, .int x3, .retAddr 0] [.int s0] (hp nS M) Q = if s0 = 0 then am_Wp d 271 37 [.ref 205, .int x1, .int x2, .int x3, .retAddr 0] [] (hp nS M) Q else am_Wp d 271 16 [.ref 205, .int x1, .int x2, .int x3, .retAddr 0] [] (hp nS M) Q := by
  exact eq_if_eq (by with_unfolding_all rfl)
set_option maxRecDepth 20000 in
theorem b_271_16 {d nS : Nat} {x1 x2 x3 : Int32} {M : am_M} {Q : Option Value → am_H → Prop} : am_Wp (d + 1) 271 16 [.ref 205, .int x1, .int x2, .int x3, .retAddr 0] [] (hp nS M) Q = am_Wp d 171 0 [.ref 205, .int x2, .int 1, .int 60] [] (hp nS M) (fun v h1 => am_Wp (d + 1) 271 24 [.ref 205, .int x1, .int x2, .int x3, .retAddr 0] (am_ans v []) h1 Q) := by
  refine (eq_run 4 (q := (21, [.ref 205, .int x1, .int x2, .int x3, .retAddr 0], [.int 60, .int 1, .int x2, .ref 205], hp nS M)) (by with_unfolding_all rfl)).trans ?_
  exact eq_call2 (e := (.invokevirtual 144, 3, 0, 171, 275)) (as := [.ref 205, .int x2, .int 1, .int 60]) (r := []) (n := 4) (m := 4) (by with_unfolding_all rfl) rfl (by decide) (by with_unfolding_all rfl) (by decide) (by with_unfolding_all rfl) ⟨fun _ => am_rec_ok (c := 14) (by with_unfolding_all rfl) (by decide +kernel), fun z => by simp at z⟩
set_option maxRecDepth 20000 in
theorem b_271_24 {d nS : Nat} {x1 x2 x3 s0 : Int32} {M : am_M} {Q : Option Value → am_H → Prop} : am_Wp d 271 24 [.ref 205, .int x1, .int x2, .int x3, .retAddr 0] [.int s0] (hp nS M) Q = if s0 = 0 then am_Wp d 271 37 [.ref 205, .int x1, .int x2, .int x3, .retAddr 0] [] (hp nS M) Q else am_Wp d 271 27 [.ref 205, .int x1, .int x2, .int x3, .retAddr 0] [] (hp nS M) Q := by
  exact eq_if_eq (by with_unfolding_all rfl)
set_option maxRecDepth 20000 in
theorem b_271_27 {d nS : Nat} {x1 x2 x3 : Int32} {M : am_M} {Q : Option Value → am_H → Prop} : am_Wp (d + 1) 271 27 [.ref 205, .int x1, .int x2, .int x3, .retAddr 0] [] (hp nS M) Q = am_Wp d 171 0 [.ref 205, .int x3, .int 0, .int 2] [] (hp nS M) (fun v h1 => am_Wp (d + 1) 271 34 [.ref 205, .int x1, .int x2, .int x3, .retAddr 0] (am_ans v []) h1 Q) := by
  refine (eq_run 4 (q := (31, [.ref 205, .int x1, .int x2, .int x3, .retAddr 0], [.int 2, .int 0, .int x3, .ref 205], hp nS M)) (by with_unfolding_all rfl)).trans ?_
  exact eq_call2 (e := (.invokevirtual 144, 3, 0, 171, 275)) (as := [.ref 205, .int x3, .int 0, .int 2]) (r := []) (n := 4) (m := 4) (by with_unfolding_all rfl) rfl (by decide) (by with_unfolding_all rfl) (by decide) (by with_unfolding_all rfl) ⟨fun _ => am_rec_ok (c := 14) (by with_unfolding_all rfl) (by decide +kernel), fun z => by simp at z⟩
set_option maxRecDepth 20000 in
theorem b_271_34 {d nS : Nat} {x1 x2 x3 s0 : Int32} {M : am_M} {Q : Option Value → am_H → Prop} : am_Wp d 271 34 [.ref 205, .int x1, .int x2, .int x3, .retAddr 0] [.int s0] (hp nS M) Q = if ¬ s0 = 0 then am_Wp d 271 39 [.ref 205, .int x1, .int x2, .int x3, .retAddr 0] [] (hp nS M) Q else am_Wp d 271 37 [.ref 205, .int x1, .int x2, .int x3, .retAddr 0] [] (hp nS M) Q := by
  exact eq_if_ne (by with_unfolding_all rfl)
set_option maxRecDepth 20000 in
theorem b_271_37 {d nS : Nat} {x1 x2 x3 : Int32} {M : am_M} {Q : Option Value → am_H → Prop} : am_Wp d 271 37 [.ref 205, .int x1, .int x2, .int x3, .retAddr 0] [] (hp nS M) Q = Q (some (.int (-1))) (hp nS M) := by
  refine (eq_run 1 (q := (38, [.ref 205, .int x1, .int x2, .int x3, .retAddr 0], [.int (-1)], hp nS M)) (by with_unfolding_all rfl)).trans ?_
  exact eq_retI2 (e := (.ireturn, 1, 0, 0, 0)) (t := .int) (by with_unfolding_all rfl) rfl (by with_unfolding_all rfl) rfl
set_option maxRecDepth 20000 in
theorem b_271_39 {d nS : Nat} {x1 x2 x3 : Int32} {M : am_M} {Q : Option Value → am_H → Prop} : am_Wp (d + 1) 271 39 [.ref 205, .int x1, .int x2, .int x3, .retAddr 0] [] (hp nS M) Q = am_Wp d 269 0 [.ref 205, .int x1, .int x2, .retAddr 0, .retAddr 0, .retAddr 0] [] (hp nS M) (fun v h1 => am_Wp (d + 1) 271 45 [.ref 205, .int x1, .int x2, .int x3, .retAddr 0] (am_ans v []) h1 Q) := by
  refine (eq_run 3 (q := (42, [.ref 205, .int x1, .int x2, .int x3, .retAddr 0], [.int x2, .int x1, .ref 205], hp nS M)) (by with_unfolding_all rfl)).trans ?_
  exact eq_call2 (e := (.invokevirtual 116, 3, 0, 269, 274)) (as := [.ref 205, .int x1, .int x2]) (r := []) (n := 3) (m := 6) (by with_unfolding_all rfl) rfl (by decide) (by with_unfolding_all rfl) (by decide) (by with_unfolding_all rfl) ⟨fun _ => am_rec_ok (c := 14) (by with_unfolding_all rfl) (by decide +kernel), fun z => by simp at z⟩
set_option maxRecDepth 20000 in
theorem b_271_45 {d nS : Nat} {x1 x2 x3 s0 : Int32} {M : am_M} {Q : Option Value → am_H → Prop} : am_Wp d 271 45 [.ref 205, .int x1, .int x2, .int x3, .retAddr 0] [.int s0] (hp nS M) Q = if ¬ x3 = 0 then am_Wp d 271 60 [.ref 205, .int x1, .int x2, .int x3, .int s0] [] (hp nS M) Q else am_Wp d 271 51 [.ref 205, .int x1, .int x2, .int x3, .int s0] [] (hp nS M) Q := by
  refine (eq_run 2 (q := (48, [.ref 205, .int x1, .int x2, .int x3, .int s0], [.int x3], hp nS M)) (by with_unfolding_all rfl)).trans ?_
  exact eq_if_ne (by with_unfolding_all rfl)
set_option maxRecDepth 20000 in
theorem b_271_51 {d nS : Nat} {x1 x2 x3 x4 : Int32} {M : am_M} {Q : Option Value → am_H → Prop} : am_Wp d 271 51 [.ref 205, .int x1, .int x2, .int x3, .int x4] [] (hp nS M) Q = am_Wp d 271 76 [.ref 205, .int x1, .int x2, .int x3, .int x4] [.int ((x1 + x2) - x4)] (hp nS M) Q := by
  exact eq_run 6 (q := (76, [.ref 205, .int x1, .int x2, .int x3, .int x4], [.int ((x1 + x2) - x4)], hp nS M)) (by with_unfolding_all rfl)
set_option maxRecDepth 20000 in
theorem b_271_60 {d nS : Nat} {x1 x2 x3 x4 : Int32} {M : am_M} {Q : Option Value → am_H → Prop} : am_Wp d 271 60 [.ref 205, .int x1, .int x2, .int x3, .int x4] [] (hp nS M) Q = if ¬ x3 = 1 then am_Wp d 271 72 [.ref 205, .int x1, .int x2, .int x3, .int x4] [] (hp nS M) Q else am_Wp d 271 65 [.ref 205, .int x1, .int x2, .int x3, .int x4] [] (hp nS M) Q := by
  refine (eq_run 2 (q := (62, [.ref 205, .int x1, .int x2, .int x3, .int x4], [.int 1, .int x3], hp nS M)) (by with_unfolding_all rfl)).trans ?_
  exact eq_cmp_ne (by with_unfolding_all rfl)
set_option maxRecDepth 20000 in
theorem b_271_65 {d nS : Nat} {x1 x2 x3 x4 : Int32} {M : am_M} {Q : Option Value → am_H → Prop} (h1 : ¬ x4 = 0) : am_Wp d 271 65 [.ref 205, .int x1, .int x2, .int x3, .int x4] [] (hp nS M) Q = am_Wp d 271 76 [.ref 205, .int x1, .int x2, .int x3, .int x4] [.int (x1 / x4)] (hp nS M) Q := by
  refine (eq_run 2 (q := (68, [.ref 205, .int x1, .int x2, .int x3, .int x4], [.int x4, .int x1], hp nS M)) (by with_unfolding_all rfl)).trans ?_
  refine (eq_div (e := (.idiv, 1, 0, 0, 0)) (by with_unfolding_all rfl) rfl h1).trans ?_
  exact eq_run 1 (q := (76, [.ref 205, .int x1, .int x2, .int x3, .int x4], [.int (x1 / x4)], hp nS M)) (by with_unfolding_all rfl)
set_option maxRecDepth 20000 in
theorem b_271_72 {d nS : Nat} {x1 x2 x3 x4 : Int32} {M : am_M} {Q : Option Value → am_H → Prop} (h1 : ¬ x4 = 0) : am_Wp d 271 72 [.ref 205, .int x1, .int x2, .int x3, .int x4] [] (hp nS M) Q = am_Wp d 271 76 [.ref 205, .int x1, .int x2, .int x3, .int x4] [.int (x2 / x4)] (hp nS M) Q := by
  refine (eq_run 2 (q := (75, [.ref 205, .int x1, .int x2, .int x3, .int x4], [.int x4, .int x2], hp nS M)) (by with_unfolding_all rfl)).trans ?_
  exact eq_div (e := (.idiv, 1, 0, 0, 0)) (by with_unfolding_all rfl) rfl h1
set_option maxRecDepth 20000 in
theorem b_271_76 {d nS : Nat} {x1 x2 x3 x4 s0 : Int32} {M : am_M} {Q : Option Value → am_H → Prop} : am_Wp d 271 76 [.ref 205, .int x1, .int x2, .int x3, .int x4] [.int s0] (hp nS M) Q = Q (some (.int s0)) (hp nS M) := by
  exact eq_retI2 (e := (.ireturn, 1, 0, 0, 0)) (t := .int) (by with_unfolding_all rfl) rfl (by with_unfolding_all rfl) rfl
-- sticks(II)I
set_option maxRecDepth 20000 in
theorem b_272_0 {d nS : Nat} {x1 x2 : Int32} {M : am_M} {Q : Option Value → am_H → Prop} : am_Wp d 272 0 [.ref 205, .int x1, .int x2] [] (hp nS M) Q = if ¬ x2 = 0 then am_Wp d 272 31 [.ref 205, .int x1, .int x2] [] (hp nS (am_up M 205 0 0)) Q else am_Wp d 272 9 [.ref 205, .int x1, .int x2] [] (hp nS (am_up M 205 0 0)) Q := by
  refine (eq_run 4 (q := (6, [.ref 205, .int x1, .int x2], [.int x2], hp nS (am_up M 205 0 0))) (by with_unfolding_all rfl)).trans ?_
  exact eq_if_ne (by with_unfolding_all rfl)
set_option maxRecDepth 20000 in
theorem b_272_9 {d nS : Nat} {x1 x2 : Int32} {M : am_M} {Q : Option Value → am_H → Prop} : am_Wp (d + 1) 272 9 [.ref 205, .int x1, .int x2] [] (hp nS M) Q = am_Wp d 171 0 [.ref 205, .int x1, .int 0, .int 99999] [] (hp nS M) (fun v h1 => am_Wp (d + 1) 272 18 [.ref 205, .int x1, .int x2] (am_ans v []) h1 Q) := by
  refine (eq_run 4 (q := (15, [.ref 205, .int x1, .int x2], [.int 99999, .int 0, .int x1, .ref 205], hp nS M)) (by with_unfolding_all rfl)).trans ?_
  exact eq_call2 (e := (.invokevirtual 144, 3, 0, 171, 275)) (as := [.ref 205, .int x1, .int 0, .int 99999]) (r := []) (n := 4) (m := 4) (by with_unfolding_all rfl) rfl (by decide) (by with_unfolding_all rfl) (by decide) (by with_unfolding_all rfl) ⟨fun _ => am_rec_ok (c := 14) (by with_unfolding_all rfl) (by decide +kernel), fun z => by simp at z⟩
set_option maxRecDepth 20000 in
theorem b_272_18 {d nS : Nat} {x1 x2 s0 : Int32} {M : am_M} {Q : Option Value → am_H → Prop} : am_Wp d 272 18 [.ref 205, .int x1, .int x2] [.int s0] (hp nS M) Q = if s0 = 0 then am_Wp d 272 29 [.ref 205, .int x1, .int x2] [] (hp nS M) Q else am_Wp d 272 21 [.ref 205, .int x1, .int x2] [] (hp nS M) Q := by
  exact eq_if_eq (by with_unfolding_all rfl)
set_option maxRecDepth 20000 in
theorem b_272_21 {d nS : Nat} {x1 x2 : Int32} {M : am_M} {Q : Option Value → am_H → Prop} : am_Wp (d + 1) 272 21 [.ref 205, .int x1, .int x2] [] (hp nS M) Q = am_Wp d 273 0 [.ref 205, .int x1, .retAddr 0, .retAddr 0] [] (hp nS M) (fun v h1 => am_Wp (d + 1) 272 26 [.ref 205, .int x1, .int x2] (am_ans v []) h1 Q) := by
  refine (eq_run 2 (q := (23, [.ref 205, .int x1, .int x2], [.int x1, .ref 205], hp nS M)) (by with_unfolding_all rfl)).trans ?_
  exact eq_call2 (e := (.invokevirtual 436, 3, 0, 273, 352)) (as := [.ref 205, .int x1]) (r := []) (n := 2) (m := 4) (by with_unfolding_all rfl) rfl (by decide) (by with_unfolding_all rfl) (by decide) (by with_unfolding_all rfl) ⟨fun _ => am_rec_ok (c := 14) (by with_unfolding_all rfl) (by decide +kernel), fun z => by simp at z⟩
set_option maxRecDepth 20000 in
theorem b_272_26 {d nS : Nat} {x1 x2 s0 : Int32} {M : am_M} {Q : Option Value → am_H → Prop} : am_Wp d 272 26 [.ref 205, .int x1, .int x2] [.int s0] (hp nS M) Q = am_Wp d 272 30 [.ref 205, .int x1, .int x2] [.int s0] (hp nS M) Q := by
  exact eq_run 1 (q := (30, [.ref 205, .int x1, .int x2], [.int s0], hp nS M)) (by with_unfolding_all rfl)
set_option maxRecDepth 20000 in
theorem b_272_29 {d nS : Nat} {x1 x2 : Int32} {M : am_M} {Q : Option Value → am_H → Prop} : am_Wp d 272 29 [.ref 205, .int x1, .int x2] [] (hp nS M) Q = am_Wp d 272 30 [.ref 205, .int x1, .int x2] [.int (-1)] (hp nS M) Q := by
  exact eq_run 1 (q := (30, [.ref 205, .int x1, .int x2], [.int (-1)], hp nS M)) (by with_unfolding_all rfl)
set_option maxRecDepth 20000 in
theorem b_272_30 {d nS : Nat} {x1 x2 s0 : Int32} {M : am_M} {Q : Option Value → am_H → Prop} : am_Wp d 272 30 [.ref 205, .int x1, .int x2] [.int s0] (hp nS M) Q = Q (some (.int s0)) (hp nS M) := by
  exact eq_retI2 (e := (.ireturn, 1, 0, 0, 0)) (t := .int) (by with_unfolding_all rfl) rfl (by with_unfolding_all rfl) rfl
set_option maxRecDepth 20000 in
theorem b_272_31 {d nS : Nat} {x1 x2 : Int32} {M : am_M} {Q : Option Value → am_H → Prop} : am_Wp d 272 31 [.ref 205, .int x1, .int x2] [] (hp nS M) Q = if ¬ x2 = 1 then am_Wp d 272 55 [.ref 205, .int x1, .int x2] [] (hp nS M) Q else am_Wp d 272 36 [.ref 205, .int x1, .int x2] [] (hp nS M) Q := by
  refine (eq_run 2 (q := (33, [.ref 205, .int x1, .int x2], [.int 1, .int x2], hp nS M)) (by with_unfolding_all rfl)).trans ?_
  exact eq_cmp_ne (by with_unfolding_all rfl)
set_option maxRecDepth 20000 in
theorem b_272_36 {d nS : Nat} {x1 x2 : Int32} {M : am_M} {Q : Option Value → am_H → Prop} : am_Wp (d + 1) 272 36 [.ref 205, .int x1, .int x2] [] (hp nS M) Q = am_Wp d 171 0 [.ref 205, .int x1, .int 2, .int 42] [] (hp nS M) (fun v h1 => am_Wp (d + 1) 272 44 [.ref 205, .int x1, .int x2] (am_ans v []) h1 Q) := by
  refine (eq_run 4 (q := (41, [.ref 205, .int x1, .int x2], [.int 42, .int 2, .int x1, .ref 205], hp nS M)) (by with_unfolding_all rfl)).trans ?_
  exact eq_call2 (e := (.invokevirtual 144, 3, 0, 171, 275)) (as := [.ref 205, .int x1, .int 2, .int 42]) (r := []) (n := 4) (m := 4) (by with_unfolding_all rfl) rfl (by decide) (by with_unfolding_all rfl) (by decide) (by with_unfolding_all rfl) ⟨fun _ => am_rec_ok (c := 14) (by with_unfolding_all rfl) (by decide +kernel), fun z => by simp at z⟩
set_option maxRecDepth 20000 in
theorem b_272_44 {d nS : Nat} {x1 x2 s0 : Int32} {M : am_M} {Q : Option Value → am_H → Prop} : am_Wp d 272 44 [.ref 205, .int x1, .int x2] [.int s0] (hp nS M) Q = if s0 = 0 then am_Wp d 272 55 [.ref 205, .int x1, .int x2] [] (hp nS M) Q else am_Wp d 272 47 [.ref 205, .int x1, .int x2] [] (hp nS M) Q := by
  exact eq_if_eq (by with_unfolding_all rfl)
set_option maxRecDepth 20000 in
theorem b_272_47 {d nS : Nat} {x1 x2 : Int32} {M : am_M} {Q : Option Value → am_H → Prop} : am_Wp (d + 1) 272 47 [.ref 205, .int x1, .int x2] [] (hp nS M) Q = am_Wp d 274 0 [.ref 205, .int x1, .retAddr 0, .retAddr 0, .retAddr 0, .retAddr 0, .retAddr 0] [] (hp nS M) (fun v h1 => am_Wp (d + 1) 272 52 [.ref 205, .int x1, .int x2] (am_ans v []) h1 Q) := by
  refine (eq_run 2 (q := (49, [.ref 205, .int x1, .int x2], [.int x1, .ref 205], hp nS M)) (by with_unfolding_all rfl)).trans ?_
  exact eq_call2 (e := (.invokevirtual 439, 3, 0, 274, 353)) (as := [.ref 205, .int x1]) (r := []) (n := 2) (m := 7) (by with_unfolding_all rfl) rfl (by decide) (by with_unfolding_all rfl) (by decide) (by with_unfolding_all rfl) ⟨fun _ => am_rec_ok (c := 14) (by with_unfolding_all rfl) (by decide +kernel), fun z => by simp at z⟩
set_option maxRecDepth 20000 in
theorem b_272_52 {d nS : Nat} {x1 x2 s0 : Int32} {M : am_M} {Q : Option Value → am_H → Prop} : am_Wp d 272 52 [.ref 205, .int x1, .int x2] [.int s0] (hp nS M) Q = am_Wp d 272 56 [.ref 205, .int x1, .int x2] [.int s0] (hp nS M) Q := by
  exact eq_run 1 (q := (56, [.ref 205, .int x1, .int x2], [.int s0], hp nS M)) (by with_unfolding_all rfl)
set_option maxRecDepth 20000 in
theorem b_272_55 {d nS : Nat} {x1 x2 : Int32} {M : am_M} {Q : Option Value → am_H → Prop} : am_Wp d 272 55 [.ref 205, .int x1, .int x2] [] (hp nS M) Q = am_Wp d 272 56 [.ref 205, .int x1, .int x2] [.int (-1)] (hp nS M) Q := by
  exact eq_run 1 (q := (56, [.ref 205, .int x1, .int x2], [.int (-1)], hp nS M)) (by with_unfolding_all rfl)
set_option maxRecDepth 20000 in
theorem b_272_56 {d nS : Nat} {x1 x2 s0 : Int32} {M : am_M} {Q : Option Value → am_H → Prop} : am_Wp d 272 56 [.ref 205, .int x1, .int x2] [.int s0] (hp nS M) Q = Q (some (.int s0)) (hp nS M) := by
  exact eq_retI2 (e := (.ireturn, 1, 0, 0, 0)) (t := .int) (by with_unfolding_all rfl) rfl (by with_unfolding_all rfl) rfl
-- sticksFor(I)I
set_option maxRecDepth 20000 in
theorem b_273_0 {d nS : Nat} {x1 : Int32} {M : am_M} {Q : Option Value → am_H → Prop} : am_Wp d 273 0 [.ref 205, .int x1, .retAddr 0, .retAddr 0] [] (hp nS M) Q = if ¬ x1 = 0 then am_Wp d 273 9 [.ref 205, .int x1, .retAddr 0, .retAddr 0] [] (hp nS M) Q else am_Wp d 273 4 [.ref 205, .int x1, .retAddr 0, .retAddr 0] [] (hp nS M) Q := by
  refine (eq_run 1 (q := (1, [.ref 205, .int x1, .retAddr 0, .retAddr 0], [.int x1], hp nS M)) (by with_unfolding_all rfl)).trans ?_
  exact eq_if_ne (by with_unfolding_all rfl)
set_option maxRecDepth 20000 in
theorem b_273_4 {d nS : Nat} {x1 : Int32} {M : am_M} {Q : Option Value → am_H → Prop} : am_Wp d 273 4 [.ref 205, .int x1, .retAddr 0, .retAddr 0] [] (hp nS M) Q = am_Wp d 273 10 [.ref 205, .int x1, .retAddr 0, .retAddr 0] [.int 6] (hp nS M) Q := by
  exact eq_run 2 (q := (10, [.ref 205, .int x1, .retAddr 0, .retAddr 0], [.int 6], hp nS M)) (by with_unfolding_all rfl)
set_option maxRecDepth 20000 in
theorem b_273_9 {d nS : Nat} {x1 : Int32} {M : am_M} {Q : Option Value → am_H → Prop} : am_Wp d 273 9 [.ref 205, .int x1, .retAddr 0, .retAddr 0] [] (hp nS M) Q = am_Wp d 273 10 [.ref 205, .int x1, .retAddr 0, .retAddr 0] [.int 0] (hp nS M) Q := by
  exact eq_run 1 (q := (10, [.ref 205, .int x1, .retAddr 0, .retAddr 0], [.int 0], hp nS M)) (by with_unfolding_all rfl)
set_option maxRecDepth 20000 in
theorem b_273_10 {d nS : Nat} {x1 s0 : Int32} {M : am_M} {Q : Option Value → am_H → Prop} : am_Wp d 273 10 [.ref 205, .int x1, .retAddr 0, .retAddr 0] [.int s0] (hp nS M) Q = am_Wp d 273 13 [.ref 205, .int x1, .int s0, .int x1] [] (hp nS M) Q := by
  exact eq_run 3 (q := (13, [.ref 205, .int x1, .int s0, .int x1], [], hp nS M)) (by with_unfolding_all rfl)
set_option maxRecDepth 20000 in
theorem b_273_13 {d nS : Nat} {x1 x2 x3 : Int32} {M : am_M} {Q : Option Value → am_H → Prop} : am_Wp d 273 13 [.ref 205, .int x1, .int x2, .int x3] [] (hp nS M) Q = if x3 ≤ 0 then am_Wp d 273 37 [.ref 205, .int x1, .int x2, .int x3] [] (hp nS M) Q else am_Wp d 273 17 [.ref 205, .int x1, .int x2, .int x3] [] (hp nS M) Q := by
  refine (eq_run 1 (q := (14, [.ref 205, .int x1, .int x2, .int x3], [.int x3], hp nS M)) (by with_unfolding_all rfl)).trans ?_
  exact eq_if_le (by with_unfolding_all rfl)
set_option maxRecDepth 20000 in
theorem b_273_17 {d nS : Nat} {x1 x2 x3 : Int32} {M : am_M} {Q : Option Value → am_H → Prop} (h1 : vp_in (x3 - x3 / 10 * 10) 10) : am_Wp d 273 17 [.ref 205, .int x1, .int x2, .int x3] [] (hp nS M) Q = am_Wp d 273 13 [.ref 205, .int x1, .int (x2 + (M 230 (x3 - x3 / 10 * 10).toNatClampNeg)), .int (x3 / 10)] [] (hp nS M) Q := by
  refine (eq_run 6 (q := (26, [.ref 205, .int x1, .int x2, .int x3], [.int (x3 - x3 / 10 * 10), .ref 230, .int x2], hp nS M)) (by with_unfolding_all rfl)).trans ?_
  refine (eq_ald (e := (.iaload, 1, 0, 0, 0)) (by with_unfolding_all rfl) rfl (n := 10) (by with_unfolding_all rfl) h1).trans ?_
  exact eq_run 7 (q := (13, [.ref 205, .int x1, .int (x2 + (M 230 (x3 - x3 / 10 * 10).toNatClampNeg)), .int (x3 / 10)], [], hp nS M)) (by with_unfolding_all rfl)
set_option maxRecDepth 20000 in
theorem b_273_37 {d nS : Nat} {x1 x2 x3 : Int32} {M : am_M} {Q : Option Value → am_H → Prop} : am_Wp d 273 37 [.ref 205, .int x1, .int x2, .int x3] [] (hp nS M) Q = Q (some (.int x2)) (hp nS M) := by
  refine (eq_run 1 (q := (38, [.ref 205, .int x1, .int x2, .int x3], [.int x2], hp nS M)) (by with_unfolding_all rfl)).trans ?_
  exact eq_retI2 (e := (.ireturn, 1, 0, 0, 0)) (t := .int) (by with_unfolding_all rfl) rfl (by with_unfolding_all rfl) rfl
-- leastOf(I)I
set_option maxRecDepth 20000 in
theorem b_274_0 {d nS : Nat} {x1 : Int32} {M : am_M} {Q : Option Value → am_H → Prop} : am_Wp d 274 0 [.ref 205, .int x1, .retAddr 0, .retAddr 0, .retAddr 0, .retAddr 0, .retAddr 0] [] (hp nS M) Q = am_Wp d 274 18 [.ref 205, .int x1, .int ((x1 + 6) / 7), .int x1, .int 0, .int (((x1 + 6) / 7) - 1), .retAddr 0] [] (hp nS M) Q := by
  exact eq_run 14 (q := (18, [.ref 205, .int x1, .int ((x1 + 6) / 7), .int x1, .int 0, .int (((x1 + 6) / 7) - 1), .retAddr 0], [], hp nS M)) (by with_unfolding_all rfl)
set_option maxRecDepth 20000 in
theorem b_274_18 {d nS : Nat} {x1 x2 x3 x4 x5 : Int32} {zx6 : Value} {M : am_M} {Q : Option Value → am_H → Prop} : am_Wp d 274 18 [.ref 205, .int x1, .int x2, .int x3, .int x4, .int x5, zx6] [] (hp nS M) Q = if x5 < 0 then am_Wp d 274 103 [.ref 205, .int x1, .int x2, .int x3, .int x4, .int x5, zx6] [] (hp nS M) Q else am_Wp d 274 23 [.ref 205, .int x1, .int x2, .int x3, .int x4, .int x5, zx6] [] (hp nS M) Q := by
  refine (eq_run 1 (q := (20, [.ref 205, .int x1, .int x2, .int x3, .int x4, .int x5, zx6], [.int x5], hp nS M)) (by with_unfolding_all rfl)).trans ?_
  exact eq_if_lt (by with_unfolding_all rfl)
set_option maxRecDepth 20000 in
theorem b_274_23 {d nS : Nat} {x1 x2 x3 x4 x5 : Int32} {zx6 : Value} {M : am_M} {Q : Option Value → am_H → Prop} : am_Wp d 274 23 [.ref 205, .int x1, .int x2, .int x3, .int x4, .int x5, zx6] [] (hp nS M) Q = if ¬ x5 = (x2 - 1) then am_Wp d 274 40 [.ref 205, .int x1, .int x2, .int x3, .int x4, .int x5, zx6] [] (hp nS M) Q else am_Wp d 274 31 [.ref 205, .int x1, .int x2, .int x3, .int x4, .int x5, zx6] [] (hp nS M) Q := by
  refine (eq_run 4 (q := (28, [.ref 205, .int x1, .int x2, .int x3, .int x4, .int x5, zx6], [.int (x2 - 1), .int x5], hp nS M)) (by with_unfolding_all rfl)).trans ?_
  exact eq_cmp_ne (by with_unfolding_all rfl)
set_option maxRecDepth 20000 in
theorem b_274_31 {d nS : Nat} {x1 x2 x3 x4 x5 : Int32} {zx6 : Value} {M : am_M} {Q : Option Value → am_H → Prop} : am_Wp d 274 31 [.ref 205, .int x1, .int x2, .int x3, .int x4, .int x5, zx6] [] (hp nS M) Q = if x2 ≤ 1 then am_Wp d 274 40 [.ref 205, .int x1, .int x2, .int x3, .int x4, .int x5, zx6] [] (hp nS M) Q else am_Wp d 274 36 [.ref 205, .int x1, .int x2, .int x3, .int x4, .int x5, zx6] [] (hp nS M) Q := by
  refine (eq_run 2 (q := (33, [.ref 205, .int x1, .int x2, .int x3, .int x4, .int x5, zx6], [.int 1, .int x2], hp nS M)) (by with_unfolding_all rfl)).trans ?_
  exact eq_cmp_le (by with_unfolding_all rfl)
set_option maxRecDepth 20000 in
theorem b_274_36 {d nS : Nat} {x1 x2 x3 x4 x5 : Int32} {zx6 : Value} {M : am_M} {Q : Option Value → am_H → Prop} : am_Wp d 274 36 [.ref 205, .int x1, .int x2, .int x3, .int x4, .int x5, zx6] [] (hp nS M) Q = am_Wp d 274 41 [.ref 205, .int x1, .int x2, .int x3, .int x4, .int x5, zx6] [.int 1] (hp nS M) Q := by
  exact eq_run 2 (q := (41, [.ref 205, .int x1, .int x2, .int x3, .int x4, .int x5, zx6], [.int 1], hp nS M)) (by with_unfolding_all rfl)
set_option maxRecDepth 20000 in
theorem b_274_40 {d nS : Nat} {x1 x2 x3 x4 x5 : Int32} {zx6 : Value} {M : am_M} {Q : Option Value → am_H → Prop} : am_Wp d 274 40 [.ref 205, .int x1, .int x2, .int x3, .int x4, .int x5, zx6] [] (hp nS M) Q = am_Wp d 274 41 [.ref 205, .int x1, .int x2, .int x3, .int x4, .int x5, zx6] [.int 0] (hp nS M) Q := by
  exact eq_run 1 (q := (41, [.ref 205, .int x1, .int x2, .int x3, .int x4, .int x5, zx6], [.int 0], hp nS M)) (by with_unfolding_all rfl)
set_option maxRecDepth 20000 in
theorem b_274_41 {d nS : Nat} {x1 x2 x3 x4 x5 s0 : Int32} {zx6 : Value} {M : am_M} {Q : Option Value → am_H → Prop} : am_Wp d 274 41 [.ref 205, .int x1, .int x2, .int x3, .int x4, .int x5, zx6] [.int s0] (hp nS M) Q = am_Wp d 274 43 [.ref 205, .int x1, .int x2, .int x3, .int x4, .int x5, .int s0] [] (hp nS M) Q := by
  exact eq_run 1 (q := (43, [.ref 205, .int x1, .int x2, .int x3, .int x4, .int x5, .int s0], [], hp nS M)) (by with_unfolding_all rfl)
set_option maxRecDepth 20000 in
theorem b_274_43 {d nS : Nat} {x1 x2 x3 x4 x5 x6 : Int32} {M : am_M} {Q : Option Value → am_H → Prop} (h1 : vp_in x6 10) : am_Wp (d + 1) 274 43 [.ref 205, .int x1, .int x2, .int x3, .int x4, .int x5, .int x6] [] (hp nS M) Q = am_Wp d 171 0 [.ref 205, .int (x3 - (M 230 x6.toNatClampNeg)), .int (2 * x5), .int (7 * x5)] [] (hp nS M) (fun v h1 => am_Wp (d + 1) 274 65 [.ref 205, .int x1, .int x2, .int x3, .int x4, .int x5, .int x6] (am_ans v []) h1 Q) := by
  refine (eq_run 5 (q := (51, [.ref 205, .int x1, .int x2, .int x3, .int x4, .int x5, .int x6], [.int x6, .ref 230, .int x3, .ref 205], hp nS M)) (by with_unfolding_all rfl)).trans ?_
  refine (eq_ald (e := (.iaload, 1, 0, 0, 0)) (by with_unfolding_all rfl) rfl (n := 10) (by with_unfolding_all rfl) h1).trans ?_
  refine (eq_run 7 (q := (62, [.ref 205, .int x1, .int x2, .int x3, .int x4, .int x5, .int x6], [.int (7 * x5), .int (2 * x5), .int (x3 - (M 230 x6.toNatClampNeg)), .ref 205], hp nS M)) (by with_unfolding_all rfl)).trans ?_
  exact eq_call2 (e := (.invokevirtual 144, 3, 0, 171, 275)) (as := [.ref 205, .int (x3 - (M 230 x6.toNatClampNeg)), .int (2 * x5), .int (7 * x5)]) (r := []) (n := 4) (m := 4) (by with_unfolding_all rfl) rfl (by decide) (by with_unfolding_all rfl) (by decide) (by with_unfolding_all rfl) ⟨fun _ => am_rec_ok (c := 14) (by with_unfolding_all rfl) (by decide +kernel), fun z => by simp at z⟩
set_option maxRecDepth 20000 in
theorem b_274_65 {d nS : Nat} {x1 x2 x3 x4 x5 x6 s0 : Int32} {M : am_M} {Q : Option Value → am_H → Prop} : am_Wp d 274 65 [.ref 205, .int x1, .int x2, .int x3, .int x4, .int x5, .int x6] [.int s0] (hp nS M) Q = if ¬ s0 = 0 then am_Wp d 274 77 [.ref 205, .int x1, .int x2, .int x3, .int x4, .int x5, .int x6] [] (hp nS M) Q else am_Wp d 274 68 [.ref 205, .int x1, .int x2, .int x3, .int x4, .int x5, .int x6] [] (hp nS M) Q := by
  exact eq_if_ne (by with_unfolding_all rfl)
set_option maxRecDepth 20000 in
theorem b_274_68 {d nS : Nat} {x1 x2 x3 x4 x5 x6 : Int32} {M : am_M} {Q : Option Value → am_H → Prop} : am_Wp d 274 68 [.ref 205, .int x1, .int x2, .int x3, .int x4, .int x5, .int x6] [] (hp nS M) Q = am_Wp d 274 43 [.ref 205, .int x1, .int x2, .int x3, .int x4, .int x5, .int (x6 + 1)] [] (hp nS M) Q := by
  exact eq_run 5 (q := (43, [.ref 205, .int x1, .int x2, .int x3, .int x4, .int x5, .int (x6 + 1)], [], hp nS M)) (by with_unfolding_all rfl)
set_option maxRecDepth 20000 in
theorem b_274_77 {d nS : Nat} {x1 x2 x3 x4 x5 x6 : Int32} {M : am_M} {Q : Option Value → am_H → Prop} (h1 : vp_in x6 10) : am_Wp d 274 77 [.ref 205, .int x1, .int x2, .int x3, .int x4, .int x5, .int x6] [] (hp nS M) Q = am_Wp d 274 18 [.ref 205, .int x1, .int x2, .int (x3 - (M 230 x6.toNatClampNeg)), .int ((10 * x4) + x6), .int (x5 + (-1)), .int x6] [] (hp nS M) Q := by
  refine (eq_run 10 (q := (94, [.ref 205, .int x1, .int x2, .int x3, .int ((10 * x4) + x6), .int x5, .int x6], [.int x6, .ref 230, .int x3], hp nS M)) (by with_unfolding_all rfl)).trans ?_
  refine (eq_ald (e := (.iaload, 1, 0, 0, 0)) (by with_unfolding_all rfl) rfl (n := 10) (by with_unfolding_all rfl) h1).trans ?_
  exact eq_run 4 (q := (18, [.ref 205, .int x1, .int x2, .int (x3 - (M 230 x6.toNatClampNeg)), .int ((10 * x4) + x6), .int (x5 + (-1)), .int x6], [], hp nS M)) (by with_unfolding_all rfl)
set_option maxRecDepth 20000 in
theorem b_274_103 {d nS : Nat} {x1 x2 x3 x4 x5 : Int32} {zx6 : Value} {M : am_M} {Q : Option Value → am_H → Prop} : am_Wp d 274 103 [.ref 205, .int x1, .int x2, .int x3, .int x4, .int x5, zx6] [] (hp nS M) Q = Q (some (.int x4)) (hp nS M) := by
  refine (eq_run 1 (q := (105, [.ref 205, .int x1, .int x2, .int x3, .int x4, .int x5, zx6], [.int x4], hp nS M)) (by with_unfolding_all rfl)).trans ?_
  exact eq_retI2 (e := (.ireturn, 1, 0, 0, 0)) (t := .int) (by with_unfolding_all rfl) rfl (by with_unfolding_all rfl) rfl
-- twos(II)I
set_option maxRecDepth 20000 in
theorem b_275_0 {d nS : Nat} {x1 x2 : Int32} {M : am_M} {Q : Option Value → am_H → Prop} : am_Wp (d + 1) 275 0 [.ref 205, .int x1, .int x2, .retAddr 0, .retAddr 0, .retAddr 0, .retAddr 0] [] (hp nS M) Q = am_Wp d 171 0 [.ref 205, .int x1, .int (-9999), .int 9999] [] (hp nS (am_up M 205 0 0)) (fun v h1 => am_Wp (d + 1) 275 16 [.ref 205, .int x1, .int x2, .retAddr 0, .retAddr 0, .retAddr 0, .retAddr 0] (am_ans v []) h1 Q) := by
  refine (eq_run 7 (q := (13, [.ref 205, .int x1, .int x2, .retAddr 0, .retAddr 0, .retAddr 0, .retAddr 0], [.int 9999, .int (-9999), .int x1, .ref 205], hp nS (am_up M 205 0 0))) (by with_unfolding_all rfl)).trans ?_
  exact eq_call2 (e := (.invokevirtual 144, 3, 0, 171, 275)) (as := [.ref 205, .int x1, .int (-9999), .int 9999]) (r := []) (n := 4) (m := 4) (by with_unfolding_all rfl) rfl (by decide) (by with_unfolding_all rfl) (by decide) (by with_unfolding_all rfl) ⟨fun _ => am_rec_ok (c := 14) (by with_unfolding_all rfl) (by decide +kernel), fun z => by simp at z⟩
set_option maxRecDepth 20000 in
theorem b_275_16 {d nS : Nat} {x1 x2 s0 : Int32} {M : am_M} {Q : Option Value → am_H → Prop} : am_Wp d 275 16 [.ref 205, .int x1, .int x2, .retAddr 0, .retAddr 0, .retAddr 0, .retAddr 0] [.int s0] (hp nS M) Q = if s0 = 0 then am_Wp d 275 29 [.ref 205, .int x1, .int x2, .retAddr 0, .retAddr 0, .retAddr 0, .retAddr 0] [] (hp nS M) Q else am_Wp d 275 19 [.ref 205, .int x1, .int x2, .retAddr 0, .retAddr 0, .retAddr 0, .retAddr 0] [] (hp nS M) Q := by
  exact eq_if_eq (by with_unfolding_all rfl)
set_option maxRecDepth 20000 in
theorem b_275_19 {d nS : Nat} {x1 x2 : Int32} {M : am_M} {Q : Option Value → am_H → Prop} : am_Wp (d + 1) 275 19 [.ref 205, .int x1, .int x2, .retAddr 0, .retAddr 0, .retAddr 0, .retAddr 0] [] (hp nS M) Q = am_Wp d 171 0 [.ref 205, .int x2, .int 0, .int 1] [] (hp nS M) (fun v h1 => am_Wp (d + 1) 275 26 [.ref 205, .int x1, .int x2, .retAddr 0, .retAddr 0, .retAddr 0, .retAddr 0] (am_ans v []) h1 Q) := by
  refine (eq_run 4 (q := (23, [.ref 205, .int x1, .int x2, .retAddr 0, .retAddr 0, .retAddr 0, .retAddr 0], [.int 1, .int 0, .int x2, .ref 205], hp nS M)) (by with_unfolding_all rfl)).trans ?_
  exact eq_call2 (e := (.invokevirtual 144, 3, 0, 171, 275)) (as := [.ref 205, .int x2, .int 0, .int 1]) (r := []) (n := 4) (m := 4) (by with_unfolding_all rfl) rfl (by decide) (by with_unfolding_all rfl) (by decide) (by with_unfolding_all rfl) ⟨fun _ => am_rec_ok (c := 14) (by with_unfolding_all rfl) (by decide +kernel), fun z => by simp at z⟩
set_option maxRecDepth 20000 in
theorem b_275_26 {d nS : Nat} {x1 x2 s0 : Int32} {M : am_M} {Q : Option Value → am_H → Prop} : am_Wp d 275 26 [.ref 205, .int x1, .int x2, .retAddr 0, .retAddr 0, .retAddr 0, .retAddr 0] [.int s0] (hp nS M) Q = if ¬ s0 = 0 then am_Wp d 275 31 [.ref 205, .int x1, .int x2, .retAddr 0, .retAddr 0, .retAddr 0, .retAddr 0] [] (hp nS M) Q else am_Wp d 275 29 [.ref 205, .int x1, .int x2, .retAddr 0, .retAddr 0, .retAddr 0, .retAddr 0] [] (hp nS M) Q := by
  exact eq_if_ne (by with_unfolding_all rfl)
set_option maxRecDepth 20000 in
theorem b_275_29 {d nS : Nat} {x1 x2 : Int32} {M : am_M} {Q : Option Value → am_H → Prop} : am_Wp d 275 29 [.ref 205, .int x1, .int x2, .retAddr 0, .retAddr 0, .retAddr 0, .retAddr 0] [] (hp nS M) Q = Q (some (.int (-1))) (hp nS M) := by
  refine (eq_run 1 (q := (30, [.ref 205, .int x1, .int x2, .retAddr 0, .retAddr 0, .retAddr 0, .retAddr 0], [.int (-1)], hp nS M)) (by with_unfolding_all rfl)).trans ?_
  exact eq_retI2 (e := (.ireturn, 1, 0, 0, 0)) (t := .int) (by with_unfolding_all rfl) rfl (by with_unfolding_all rfl) rfl
set_option maxRecDepth 20000 in
theorem b_275_31 {d nS : Nat} {x1 x2 : Int32} {M : am_M} {Q : Option Value → am_H → Prop} : am_Wp d 275 31 [.ref 205, .int x1, .int x2, .retAddr 0, .retAddr 0, .retAddr 0, .retAddr 0] [] (hp nS M) Q = am_Wp d 275 39 [.ref 205, .int x1, .int x2, .int 0, .int 0, .int x1, .retAddr 0] [] (hp nS M) Q := by
  exact eq_run 6 (q := (39, [.ref 205, .int x1, .int x2, .int 0, .int 0, .int x1, .retAddr 0], [], hp nS M)) (by with_unfolding_all rfl)
set_option maxRecDepth 20000 in
theorem b_275_39 {d nS : Nat} {x1 x2 x3 x4 x5 : Int32} {zx6 : Value} {M : am_M} {Q : Option Value → am_H → Prop} : am_Wp d 275 39 [.ref 205, .int x1, .int x2, .int x3, .int x4, .int x5, zx6] [] (hp nS M) Q = if ¬ x5 = 0 then am_Wp d 275 49 [.ref 205, .int x1, .int x2, .int x3, .int x4, .int x5, zx6] [] (hp nS M) Q else am_Wp d 275 44 [.ref 205, .int x1, .int x2, .int x3, .int x4, .int x5, zx6] [] (hp nS M) Q := by
  refine (eq_run 1 (q := (41, [.ref 205, .int x1, .int x2, .int x3, .int x4, .int x5, zx6], [.int x5], hp nS M)) (by with_unfolding_all rfl)).trans ?_
  exact eq_if_ne (by with_unfolding_all rfl)
set_option maxRecDepth 20000 in
theorem b_275_44 {d nS : Nat} {x1 x2 x3 x4 x5 : Int32} {zx6 : Value} {M : am_M} {Q : Option Value → am_H → Prop} : am_Wp d 275 44 [.ref 205, .int x1, .int x2, .int x3, .int x4, .int x5, zx6] [] (hp nS M) Q = if ¬ x4 = 0 then am_Wp d 275 82 [.ref 205, .int x1, .int x2, .int x3, .int x4, .int x5, zx6] [] (hp nS M) Q else am_Wp d 275 49 [.ref 205, .int x1, .int x2, .int x3, .int x4, .int x5, zx6] [] (hp nS M) Q := by
  refine (eq_run 1 (q := (46, [.ref 205, .int x1, .int x2, .int x3, .int x4, .int x5, zx6], [.int x4], hp nS M)) (by with_unfolding_all rfl)).trans ?_
  exact eq_if_ne (by with_unfolding_all rfl)
set_option maxRecDepth 20000 in
theorem b_275_49 {d nS : Nat} {x1 x2 x3 x4 x5 : Int32} {zx6 : Value} {M : am_M} {Q : Option Value → am_H → Prop} : am_Wp d 275 49 [.ref 205, .int x1, .int x2, .int x3, .int x4, .int x5, zx6] [] (hp nS M) Q = am_Wp d 275 39 [.ref 205, .int x1, .int x2, .int (x3 ||| ((x5 &&& 1) <<< (x4 &&& 31))), .int (x4 + 1), .int ((x5 - (x5 &&& 1)) / (-2)), .int (x5 &&& 1)] [] (hp nS M) Q := by
  exact eq_run 21 (q := (39, [.ref 205, .int x1, .int x2, .int (x3 ||| ((x5 &&& 1) <<< (x4 &&& 31))), .int (x4 + 1), .int ((x5 - (x5 &&& 1)) / (-2)), .int (x5 &&& 1)], [], hp nS M)) (by with_unfolding_all rfl)
set_option maxRecDepth 20000 in
theorem b_275_82 {d nS : Nat} {x1 x2 x3 x4 x5 : Int32} {zx6 : Value} {M : am_M} {Q : Option Value → am_H → Prop} : am_Wp d 275 82 [.ref 205, .int x1, .int x2, .int x3, .int x4, .int x5, zx6] [] (hp nS M) Q = if ¬ x2 = 0 then am_Wp d 275 91 [.ref 205, .int x1, .int x2, .int x3, .int x4, .int x5, zx6] [] (hp nS M) Q else am_Wp d 275 86 [.ref 205, .int x1, .int x2, .int x3, .int x4, .int x5, zx6] [] (hp nS M) Q := by
  refine (eq_run 1 (q := (83, [.ref 205, .int x1, .int x2, .int x3, .int x4, .int x5, zx6], [.int x2], hp nS M)) (by with_unfolding_all rfl)).trans ?_
  exact eq_if_ne (by with_unfolding_all rfl)
set_option maxRecDepth 20000 in
theorem b_275_86 {d nS : Nat} {x1 x2 x3 x4 x5 : Int32} {zx6 : Value} {M : am_M} {Q : Option Value → am_H → Prop} : am_Wp d 275 86 [.ref 205, .int x1, .int x2, .int x3, .int x4, .int x5, zx6] [] (hp nS M) Q = am_Wp d 275 92 [.ref 205, .int x1, .int x2, .int x3, .int x4, .int x5, zx6] [.int x4] (hp nS M) Q := by
  exact eq_run 2 (q := (92, [.ref 205, .int x1, .int x2, .int x3, .int x4, .int x5, zx6], [.int x4], hp nS M)) (by with_unfolding_all rfl)
set_option maxRecDepth 20000 in
theorem b_275_91 {d nS : Nat} {x1 x2 x3 x4 x5 : Int32} {zx6 : Value} {M : am_M} {Q : Option Value → am_H → Prop} : am_Wp d 275 91 [.ref 205, .int x1, .int x2, .int x3, .int x4, .int x5, zx6] [] (hp nS M) Q = am_Wp d 275 92 [.ref 205, .int x1, .int x2, .int x3, .int x4, .int x5, zx6] [.int x3] (hp nS M) Q := by
  exact eq_run 1 (q := (92, [.ref 205, .int x1, .int x2, .int x3, .int x4, .int x5, zx6], [.int x3], hp nS M)) (by with_unfolding_all rfl)
set_option maxRecDepth 20000 in
theorem b_275_92 {d nS : Nat} {x1 x2 x3 x4 x5 s0 : Int32} {zx6 : Value} {M : am_M} {Q : Option Value → am_H → Prop} : am_Wp d 275 92 [.ref 205, .int x1, .int x2, .int x3, .int x4, .int x5, zx6] [.int s0] (hp nS M) Q = Q (some (.int s0)) (hp nS M) := by
  exact eq_retI2 (e := (.ireturn, 1, 0, 0, 0)) (t := .int) (by with_unfolding_all rfl) rfl (by with_unfolding_all rfl) rfl
-- words(II)I
set_option maxRecDepth 20000 in
theorem b_276_0 {d nS : Nat} {x1 x2 : Int32} {M : am_M} {Q : Option Value → am_H → Prop} : am_Wp (d + 1) 276 0 [.ref 205, .int x1, .int x2, .retAddr 0, .retAddr 0] [] (hp nS M) Q = am_Wp d 171 0 [.ref 205, .int x1, .int 0, .int 999] [] (hp nS (am_up M 205 0 0)) (fun v h1 => am_Wp (d + 1) 276 14 [.ref 205, .int x1, .int x2, .retAddr 0, .retAddr 0] (am_ans v []) h1 Q) := by
  refine (eq_run 7 (q := (11, [.ref 205, .int x1, .int x2, .retAddr 0, .retAddr 0], [.int 999, .int 0, .int x1, .ref 205], hp nS (am_up M 205 0 0))) (by with_unfolding_all rfl)).trans ?_
  exact eq_call2 (e := (.invokevirtual 144, 3, 0, 171, 275)) (as := [.ref 205, .int x1, .int 0, .int 999]) (r := []) (n := 4) (m := 4) (by with_unfolding_all rfl) rfl (by decide) (by with_unfolding_all rfl) (by decide) (by with_unfolding_all rfl) ⟨fun _ => am_rec_ok (c := 14) (by with_unfolding_all rfl) (by decide +kernel), fun z => by simp at z⟩
set_option maxRecDepth 20000 in
theorem b_276_14 {d nS : Nat} {x1 x2 s0 : Int32} {M : am_M} {Q : Option Value → am_H → Prop} : am_Wp d 276 14 [.ref 205, .int x1, .int x2, .retAddr 0, .retAddr 0] [.int s0] (hp nS M) Q = if s0 = 0 then am_Wp d 276 27 [.ref 205, .int x1, .int x2, .retAddr 0, .retAddr 0] [] (hp nS M) Q else am_Wp d 276 17 [.ref 205, .int x1, .int x2, .retAddr 0, .retAddr 0] [] (hp nS M) Q := by
  exact eq_if_eq (by with_unfolding_all rfl)
set_option maxRecDepth 20000 in
theorem b_276_17 {d nS : Nat} {x1 x2 : Int32} {M : am_M} {Q : Option Value → am_H → Prop} : am_Wp (d + 1) 276 17 [.ref 205, .int x1, .int x2, .retAddr 0, .retAddr 0] [] (hp nS M) Q = am_Wp d 171 0 [.ref 205, .int x2, .int 0, .int 1] [] (hp nS M) (fun v h1 => am_Wp (d + 1) 276 24 [.ref 205, .int x1, .int x2, .retAddr 0, .retAddr 0] (am_ans v []) h1 Q) := by
  refine (eq_run 4 (q := (21, [.ref 205, .int x1, .int x2, .retAddr 0, .retAddr 0], [.int 1, .int 0, .int x2, .ref 205], hp nS M)) (by with_unfolding_all rfl)).trans ?_
  exact eq_call2 (e := (.invokevirtual 144, 3, 0, 171, 275)) (as := [.ref 205, .int x2, .int 0, .int 1]) (r := []) (n := 4) (m := 4) (by with_unfolding_all rfl) rfl (by decide) (by with_unfolding_all rfl) (by decide) (by with_unfolding_all rfl) ⟨fun _ => am_rec_ok (c := 14) (by with_unfolding_all rfl) (by decide +kernel), fun z => by simp at z⟩
set_option maxRecDepth 20000 in
theorem b_276_24 {d nS : Nat} {x1 x2 s0 : Int32} {M : am_M} {Q : Option Value → am_H → Prop} : am_Wp d 276 24 [.ref 205, .int x1, .int x2, .retAddr 0, .retAddr 0] [.int s0] (hp nS M) Q = if ¬ s0 = 0 then am_Wp d 276 29 [.ref 205, .int x1, .int x2, .retAddr 0, .retAddr 0] [] (hp nS M) Q else am_Wp d 276 27 [.ref 205, .int x1, .int x2, .retAddr 0, .retAddr 0] [] (hp nS M) Q := by
  exact eq_if_ne (by with_unfolding_all rfl)
set_option maxRecDepth 20000 in
theorem b_276_27 {d nS : Nat} {x1 x2 : Int32} {M : am_M} {Q : Option Value → am_H → Prop} : am_Wp d 276 27 [.ref 205, .int x1, .int x2, .retAddr 0, .retAddr 0] [] (hp nS M) Q = Q (some (.int (-1))) (hp nS M) := by
  refine (eq_run 1 (q := (28, [.ref 205, .int x1, .int x2, .retAddr 0, .retAddr 0], [.int (-1)], hp nS M)) (by with_unfolding_all rfl)).trans ?_
  exact eq_retI2 (e := (.ireturn, 1, 0, 0, 0)) (t := .int) (by with_unfolding_all rfl) rfl (by with_unfolding_all rfl) rfl
set_option maxRecDepth 20000 in
theorem b_276_29 {d nS : Nat} {x1 x2 : Int32} {M : am_M} {Q : Option Value → am_H → Prop} : am_Wp d 276 29 [.ref 205, .int x1, .int x2, .retAddr 0, .retAddr 0] [] (hp nS M) Q = if ¬ x2 = 0 then am_Wp d 276 39 [.ref 205, .int x1, .int x2, .retAddr 0, .retAddr 0] [] (hp nS M) Q else am_Wp d 276 33 [.ref 205, .int x1, .int x2, .retAddr 0, .retAddr 0] [] (hp nS M) Q := by
  refine (eq_run 1 (q := (30, [.ref 205, .int x1, .int x2, .retAddr 0, .retAddr 0], [.int x2], hp nS M)) (by with_unfolding_all rfl)).trans ?_
  exact eq_if_ne (by with_unfolding_all rfl)
set_option maxRecDepth 20000 in
theorem b_276_33 {d nS : Nat} {x1 x2 : Int32} {M : am_M} {Q : Option Value → am_H → Prop} : am_Wp (d + 1) 276 33 [.ref 205, .int x1, .int x2, .retAddr 0, .retAddr 0] [] (hp nS M) Q = am_Wp d 277 0 [.ref 205, .int x1, .retAddr 0, .retAddr 0, .retAddr 0] [] (hp nS M) (fun v h1 => am_Wp (d + 1) 276 38 [.ref 205, .int x1, .int x2, .retAddr 0, .retAddr 0] (am_ans v []) h1 Q) := by
  refine (eq_run 2 (q := (35, [.ref 205, .int x1, .int x2, .retAddr 0, .retAddr 0], [.int x1, .ref 205], hp nS M)) (by with_unfolding_all rfl)).trans ?_
  exact eq_call2 (e := (.invokevirtual 442, 3, 0, 277, 354)) (as := [.ref 205, .int x1]) (r := []) (n := 2) (m := 5) (by with_unfolding_all rfl) rfl (by decide) (by with_unfolding_all rfl) (by decide) (by with_unfolding_all rfl) ⟨fun _ => am_rec_ok (c := 14) (by with_unfolding_all rfl) (by decide +kernel), fun z => by simp at z⟩
set_option maxRecDepth 20000 in
theorem b_276_38 {d nS : Nat} {x1 x2 s0 : Int32} {M : am_M} {Q : Option Value → am_H → Prop} : am_Wp d 276 38 [.ref 205, .int x1, .int x2, .retAddr 0, .retAddr 0] [.int s0] (hp nS M) Q = Q (some (.int s0)) (hp nS M) := by
  exact eq_retI2 (e := (.ireturn, 1, 0, 0, 0)) (t := .int) (by with_unfolding_all rfl) rfl (by with_unfolding_all rfl) rfl
set_option maxRecDepth 20000 in
theorem b_276_39 {d nS : Nat} {x1 x2 : Int32} {M : am_M} {Q : Option Value → am_H → Prop} : am_Wp d 276 39 [.ref 205, .int x1, .int x2, .retAddr 0, .retAddr 0] [] (hp nS M) Q = am_Wp d 276 44 [.ref 205, .int x1, .int x2, .int 0, .int 1] [] (hp nS M) Q := by
  exact eq_run 4 (q := (44, [.ref 205, .int x1, .int x2, .int 0, .int 1], [], hp nS M)) (by with_unfolding_all rfl)
set_option maxRecDepth 20000 in
theorem b_276_44 {d nS : Nat} {x1 x2 x3 x4 : Int32} {M : am_M} {Q : Option Value → am_H → Prop} : am_Wp d 276 44 [.ref 205, .int x1, .int x2, .int x3, .int x4] [] (hp nS M) Q = if x1 < x4 then am_Wp d 276 73 [.ref 205, .int x1, .int x2, .int x3, .int x4] [] (hp nS M) Q else am_Wp d 276 50 [.ref 205, .int x1, .int x2, .int x3, .int x4] [] (hp nS M) Q := by
  refine (eq_run 2 (q := (47, [.ref 205, .int x1, .int x2, .int x3, .int x4], [.int x1, .int x4], hp nS M)) (by with_unfolding_all rfl)).trans ?_
  exact eq_cmp_gt (by with_unfolding_all rfl)
set_option maxRecDepth 20000 in
theorem b_276_50 {d nS : Nat} {x1 x2 x3 x4 : Int32} {M : am_M} {Q : Option Value → am_H → Prop} : am_Wp (d + 1) 276 50 [.ref 205, .int x1, .int x2, .int x3, .int x4] [] (hp nS M) Q = am_Wp d 277 0 [.ref 205, .int x4, .retAddr 0, .retAddr 0, .retAddr 0] [] (hp nS M) (fun v h1 => am_Wp (d + 1) 276 56 [.ref 205, .int x1, .int x2, .int x3, .int x4] (am_ans v []) h1 Q) := by
  refine (eq_run 2 (q := (53, [.ref 205, .int x1, .int x2, .int x3, .int x4], [.int x4, .ref 205], hp nS M)) (by with_unfolding_all rfl)).trans ?_
  exact eq_call2 (e := (.invokevirtual 442, 3, 0, 277, 354)) (as := [.ref 205, .int x4]) (r := []) (n := 2) (m := 5) (by with_unfolding_all rfl) rfl (by decide) (by with_unfolding_all rfl) (by decide) (by with_unfolding_all rfl) ⟨fun _ => am_rec_ok (c := 14) (by with_unfolding_all rfl) (by decide +kernel), fun z => by simp at z⟩
set_option maxRecDepth 20000 in
theorem b_276_56 {d nS : Nat} {x1 x2 x3 x4 s0 : Int32} {M : am_M} {Q : Option Value → am_H → Prop} : am_Wp (d + 1) 276 56 [.ref 205, .int x1, .int x2, .int x3, .int x4] [.int s0] (hp nS M) Q = am_Wp d 277 0 [.ref 205, .int x3, .retAddr 0, .retAddr 0, .retAddr 0] [] (hp nS M) (fun v h1 => am_Wp (d + 1) 276 61 [.ref 205, .int x1, .int x2, .int x3, .int x4] (am_ans v [.int s0]) h1 Q) := by
  refine (eq_run 2 (q := (58, [.ref 205, .int x1, .int x2, .int x3, .int x4], [.int x3, .ref 205, .int s0], hp nS M)) (by with_unfolding_all rfl)).trans ?_
  exact eq_call2 (e := (.invokevirtual 442, 3, 0, 277, 354)) (as := [.ref 205, .int x3]) (r := [.int s0]) (n := 2) (m := 5) (by with_unfolding_all rfl) rfl (by decide) (by with_unfolding_all rfl) (by decide) (by with_unfolding_all rfl) ⟨fun _ => am_rec_ok (c := 14) (by with_unfolding_all rfl) (by decide +kernel), fun z => by simp at z⟩
set_option maxRecDepth 20000 in
theorem b_276_61 {d nS : Nat} {x1 x2 x3 x4 s0 s1 : Int32} {M : am_M} {Q : Option Value → am_H → Prop} : am_Wp d 276 61 [.ref 205, .int x1, .int x2, .int x3, .int x4] [.int s1, .int s0] (hp nS M) Q = if s0 ≤ s1 then am_Wp d 276 67 [.ref 205, .int x1, .int x2, .int x3, .int x4] [] (hp nS M) Q else am_Wp d 276 64 [.ref 205, .int x1, .int x2, .int x3, .int x4] [] (hp nS M) Q := by
  exact eq_cmp_le (by with_unfolding_all rfl)
set_option maxRecDepth 20000 in
theorem b_276_64 {d nS : Nat} {x1 x2 x3 x4 : Int32} {M : am_M} {Q : Option Value → am_H → Prop} : am_Wp d 276 64 [.ref 205, .int x1, .int x2, .int x3, .int x4] [] (hp nS M) Q = am_Wp d 276 67 [.ref 205, .int x1, .int x2, .int x4, .int x4] [] (hp nS M) Q := by
  exact eq_run 2 (q := (67, [.ref 205, .int x1, .int x2, .int x4, .int x4], [], hp nS M)) (by with_unfolding_all rfl)
set_option maxRecDepth 20000 in
theorem b_276_67 {d nS : Nat} {x1 x2 x3 x4 : Int32} {M : am_M} {Q : Option Value → am_H → Prop} : am_Wp d 276 67 [.ref 205, .int x1, .int x2, .int x3, .int x4] [] (hp nS M) Q = am_Wp d 276 44 [.ref 205, .int x1, .int x2, .int x3, .int (x4 + 1)] [] (hp nS M) Q := by
  exact eq_run 2 (q := (44, [.ref 205, .int x1, .int x2, .int x3, .int (x4 + 1)], [], hp nS M)) (by with_unfolding_all rfl)
set_option maxRecDepth 20000 in
theorem b_276_73 {d nS : Nat} {x1 x2 x3 x4 : Int32} {M : am_M} {Q : Option Value → am_H → Prop} : am_Wp d 276 73 [.ref 205, .int x1, .int x2, .int x3, .int x4] [] (hp nS M) Q = Q (some (.int x3)) (hp nS M) := by
  refine (eq_run 1 (q := (74, [.ref 205, .int x1, .int x2, .int x3, .int x4], [.int x3], hp nS M)) (by with_unfolding_all rfl)).trans ?_
  exact eq_retI2 (e := (.ireturn, 1, 0, 0, 0)) (t := .int) (by with_unfolding_all rfl) rfl (by with_unfolding_all rfl) rfl
-- lettersOf(I)I
set_option maxRecDepth 20000 in
theorem b_277_0 {d nS : Nat} {x1 : Int32} {M : am_M} {Q : Option Value → am_H → Prop} : am_Wp d 277 0 [.ref 205, .int x1, .retAddr 0, .retAddr 0, .retAddr 0] [] (hp nS M) Q = if ¬ (x1 / 100) = 0 then am_Wp d 277 18 [.ref 205, .int x1, .int (x1 / 100), .int (x1 - x1 / 100 * 100), .retAddr 0] [] (hp nS M) Q else am_Wp d 277 14 [.ref 205, .int x1, .int (x1 / 100), .int (x1 - x1 / 100 * 100), .retAddr 0] [] (hp nS M) Q := by
  refine (eq_run 9 (q := (11, [.ref 205, .int x1, .int (x1 / 100), .int (x1 - x1 / 100 * 100), .retAddr 0], [.int (x1 / 100)], hp nS M)) (by with_unfolding_all rfl)).trans ?_
  exact eq_if_ne (by with_unfolding_all rfl)
set_option maxRecDepth 20000 in
theorem b_277_14 {d nS : Nat} {x1 x2 x3 : Int32} {M : am_M} {Q : Option Value → am_H → Prop} : am_Wp d 277 14 [.ref 205, .int x1, .int x2, .int x3, .retAddr 0] [] (hp nS M) Q = am_Wp d 277 27 [.ref 205, .int x1, .int x2, .int x3, .retAddr 0] [.int 0] (hp nS M) Q := by
  exact eq_run 2 (q := (27, [.ref 205, .int x1, .int x2, .int x3, .retAddr 0], [.int 0], hp nS M)) (by with_unfolding_all rfl)
set_option maxRecDepth 20000 in
theorem b_277_18 {d nS : Nat} {x1 x2 x3 : Int32} {M : am_M} {Q : Option Value → am_H → Prop} (h1 : vp_in x2 28) : am_Wp d 277 18 [.ref 205, .int x1, .int x2, .int x3, .retAddr 0] [] (hp nS M) Q = am_Wp d 277 27 [.ref 205, .int x1, .int x2, .int x3, .retAddr 0] [.int ((M 231 x2.toNatClampNeg) + 7)] (hp nS M) Q := by
  refine (eq_run 3 (q := (23, [.ref 205, .int x1, .int x2, .int x3, .retAddr 0], [.int x2, .ref 231], hp nS M)) (by with_unfolding_all rfl)).trans ?_
  refine (eq_ald (e := (.iaload, 1, 0, 0, 0)) (by with_unfolding_all rfl) rfl (n := 28) (by with_unfolding_all rfl) h1).trans ?_
  exact eq_run 2 (q := (27, [.ref 205, .int x1, .int x2, .int x3, .retAddr 0], [.int ((M 231 x2.toNatClampNeg) + 7)], hp nS M)) (by with_unfolding_all rfl)
set_option maxRecDepth 20000 in
theorem b_277_27 {d nS : Nat} {x1 x2 x3 s0 : Int32} {M : am_M} {Q : Option Value → am_H → Prop} : am_Wp d 277 27 [.ref 205, .int x1, .int x2, .int x3, .retAddr 0] [.int s0] (hp nS M) Q = if ¬ x3 = 0 then am_Wp d 277 49 [.ref 205, .int x1, .int x2, .int x3, .int s0] [] (hp nS M) Q else am_Wp d 277 33 [.ref 205, .int x1, .int x2, .int x3, .int s0] [] (hp nS M) Q := by
  refine (eq_run 2 (q := (30, [.ref 205, .int x1, .int x2, .int x3, .int s0], [.int x3], hp nS M)) (by with_unfolding_all rfl)).trans ?_
  exact eq_if_ne (by with_unfolding_all rfl)
set_option maxRecDepth 20000 in
theorem b_277_33 {d nS : Nat} {x1 x2 x3 x4 : Int32} {M : am_M} {Q : Option Value → am_H → Prop} : am_Wp d 277 33 [.ref 205, .int x1, .int x2, .int x3, .int x4] [] (hp nS M) Q = if ¬ x2 = 0 then am_Wp d 277 46 [.ref 205, .int x1, .int x2, .int x3, .int x4] [] (hp nS M) Q else am_Wp d 277 37 [.ref 205, .int x1, .int x2, .int x3, .int x4] [] (hp nS M) Q := by
  refine (eq_run 1 (q := (34, [.ref 205, .int x1, .int x2, .int x3, .int x4], [.int x2], hp nS M)) (by with_unfolding_all rfl)).trans ?_
  exact eq_if_ne (by with_unfolding_all rfl)
set_option maxRecDepth 20000 in
theorem b_277_37 {d nS : Nat} {x1 x2 x3 x4 : Int32} {M : am_M} {Q : Option Value → am_H → Prop} : am_Wp d 277 37 [.ref 205, .int x1, .int x2, .int x3, .int x4] [] (hp nS M) Q = am_Wp d 277 48 [.ref 205, .int x1, .int x2, .int x3, .int x4] [.int (M 231 0)] (hp nS M) Q := by
  exact eq_run 5 (q := (48, [.ref 205, .int x1, .int x2, .int x3, .int x4], [.int (M 231 0)], hp nS M)) (by with_unfolding_all rfl)
set_option maxRecDepth 20000 in
theorem b_277_46 {d nS : Nat} {x1 x2 x3 x4 : Int32} {M : am_M} {Q : Option Value → am_H → Prop} : am_Wp d 277 46 [.ref 205, .int x1, .int x2, .int x3, .int x4] [] (hp nS M) Q = am_Wp d 277 48 [.ref 205, .int x1, .int x2, .int x3, .int x4] [.int x4] (hp nS M) Q := by
  exact eq_run 1 (q := (48, [.ref 205, .int x1, .int x2, .int x3, .int x4], [.int x4], hp nS M)) (by with_unfolding_all rfl)
set_option maxRecDepth 20000 in
theorem b_277_48 {d nS : Nat} {x1 x2 x3 x4 s0 : Int32} {M : am_M} {Q : Option Value → am_H → Prop} : am_Wp d 277 48 [.ref 205, .int x1, .int x2, .int x3, .int x4] [.int s0] (hp nS M) Q = Q (some (.int s0)) (hp nS M) := by
  exact eq_retI2 (e := (.ireturn, 1, 0, 0, 0)) (t := .int) (by with_unfolding_all rfl) rfl (by with_unfolding_all rfl) rfl
set_option maxRecDepth 20000 in
theorem b_277_49 {d nS : Nat} {x1 x2 x3 x4 : Int32} {M : am_M} {Q : Option Value → am_H → Prop} : am_Wp d 277 49 [.ref 205, .int x1, .int x2, .int x3, .int x4] [] (hp nS M) Q = if 20 ≤ x3 then am_Wp d 277 65 [.ref 205, .int x1, .int x2, .int x3, .int x4] [] (hp nS M) Q else am_Wp d 277 55 [.ref 205, .int x1, .int x2, .int x3, .int x4] [] (hp nS M) Q := by
  refine (eq_run 2 (q := (52, [.ref 205, .int x1, .int x2, .int x3, .int x4], [.int 20, .int x3], hp nS M)) (by with_unfolding_all rfl)).trans ?_
  exact eq_cmp_ge (by with_unfolding_all rfl)
set_option maxRecDepth 20000 in
theorem b_277_55 {d nS : Nat} {x1 x2 x3 x4 : Int32} {M : am_M} {Q : Option Value → am_H → Prop} (h1 : vp_in x3 28) : am_Wp d 277 55 [.ref 205, .int x1, .int x2, .int x3, .int x4] [] (hp nS M) Q = Q (some (.int (x4 + (M 231 x3.toNatClampNeg)))) (hp nS M) := by
  refine (eq_run 4 (q := (62, [.ref 205, .int x1, .int x2, .int x3, .int x4], [.int x3, .ref 231, .int x4], hp nS M)) (by with_unfolding_all rfl)).trans ?_
  refine (eq_ald (e := (.iaload, 1, 0, 0, 0)) (by with_unfolding_all rfl) rfl (n := 28) (by with_unfolding_all rfl) h1).trans ?_
  refine (eq_run 1 (q := (64, [.ref 205, .int x1, .int x2, .int x3, .int x4], [.int (x4 + (M 231 x3.toNatClampNeg))], hp nS M)) (by with_unfolding_all rfl)).trans ?_
  exact eq_retI2 (e := (.ireturn, 1, 0, 0, 0)) (t := .int) (by with_unfolding_all rfl) rfl (by with_unfolding_all rfl) rfl
set_option maxRecDepth 20000 in
theorem b_277_65 {d nS : Nat} {x1 x2 x3 x4 : Int32} {M : am_M} {Q : Option Value → am_H → Prop} (h1 : vp_in (18 + (x3 / 10)) 28) : am_Wp d 277 65 [.ref 205, .int x1, .int x2, .int x3, .int x4] [] (hp nS M) Q = if ¬ (x3 - x3 / 10 * 10) = 0 then am_Wp d 277 91 [.ref 205, .int x1, .int x2, .int x3, .int x4] [.int (x4 + (M 231 (18 + (x3 / 10)).toNatClampNeg))] (hp nS M) Q else am_Wp d 277 87 [.ref 205, .int x1, .int x2, .int x3, .int x4] [.int (x4 + (M 231 (18 + (x3 / 10)).toNatClampNeg))] (hp nS M) Q := by
  refine (eq_run 8 (q := (78, [.ref 205, .int x1, .int x2, .int x3, .int x4], [.int (18 + (x3 / 10)), .ref 231, .int x4], hp nS M)) (by with_unfolding_all rfl)).trans ?_
  refine (eq_ald (e := (.iaload, 1, 0, 0, 0)) (by with_unfolding_all rfl) rfl (n := 28) (by with_unfolding_all rfl) h1).trans ?_
  refine (eq_run 4 (q := (84, [.ref 205, .int x1, .int x2, .int x3, .int x4], [.int (x3 - x3 / 10 * 10), .int (x4 + (M 231 (18 + (x3 / 10)).toNatClampNeg))], hp nS M)) (by with_unfolding_all rfl)).trans ?_
  exact eq_if_ne (by with_unfolding_all rfl)
set_option maxRecDepth 20000 in
theorem b_277_87 {d nS : Nat} {x1 x2 x3 x4 s0 : Int32} {M : am_M} {Q : Option Value → am_H → Prop} : am_Wp d 277 87 [.ref 205, .int x1, .int x2, .int x3, .int x4] [.int s0] (hp nS M) Q = am_Wp d 277 100 [.ref 205, .int x1, .int x2, .int x3, .int x4] [.int 0, .int s0] (hp nS M) Q := by
  exact eq_run 2 (q := (100, [.ref 205, .int x1, .int x2, .int x3, .int x4], [.int 0, .int s0], hp nS M)) (by with_unfolding_all rfl)
set_option maxRecDepth 20000 in
theorem b_277_91 {d nS : Nat} {x1 x2 x3 x4 s0 : Int32} {M : am_M} {Q : Option Value → am_H → Prop} (h1 : vp_in (x3 - x3 / 10 * 10) 28) : am_Wp d 277 91 [.ref 205, .int x1, .int x2, .int x3, .int x4] [.int s0] (hp nS M) Q = am_Wp d 277 100 [.ref 205, .int x1, .int x2, .int x3, .int x4] [.int (M 231 (x3 - x3 / 10 * 10).toNatClampNeg), .int s0] (hp nS M) Q := by
  refine (eq_run 5 (q := (99, [.ref 205, .int x1, .int x2, .int x3, .int x4], [.int (x3 - x3 / 10 * 10), .ref 231, .int s0], hp nS M)) (by with_unfolding_all rfl)).trans ?_
  exact eq_ald (e := (.iaload, 1, 0, 0, 0)) (by with_unfolding_all rfl) rfl (n := 28) (by with_unfolding_all rfl) h1
set_option maxRecDepth 20000 in
theorem b_277_100 {d nS : Nat} {x1 x2 x3 x4 s0 s1 : Int32} {M : am_M} {Q : Option Value → am_H → Prop} : am_Wp d 277 100 [.ref 205, .int x1, .int x2, .int x3, .int x4] [.int s1, .int s0] (hp nS M) Q = Q (some (.int (s0 + s1))) (hp nS M) := by
  refine (eq_run 1 (q := (101, [.ref 205, .int x1, .int x2, .int x3, .int x4], [.int (s0 + s1)], hp nS M)) (by with_unfolding_all rfl)).trans ?_
  exact eq_retI2 (e := (.ireturn, 1, 0, 0, 0)) (t := .int) (by with_unfolding_all rfl) rfl (by with_unfolding_all rfl) rfl
