-- LarkExchange sack(II)I (159, (16, None, None))
set_option maxRecDepth 20000 in
theorem b_159_0 {d nS : Nat} {x1 x2 : Int32} {M : am_M} {Q : Option Value → am_H → Prop} : am_Wp (d + 1) 159 0 [.ref 16, .int x1, .int x2] [] (hp nS M) Q = am_Wp d 6 0 [.ref 54, .int x1, .int x2] [] (hp nS M) (fun v h1 => am_Wp (d + 1) 159 12 [.ref 16, .int x1, .int x2] (am_ans v []) h1 Q) := by
  refine (eq_run 5 (q := (9, [.ref 16, .int x1, .int x2], [.int x2, .int x1, .ref 54], hp nS M)) (by with_unfolding_all rfl)).trans ?_
  exact eq_call2 (e := (.invokevirtual 321, 3, 0, 6, 56)) (as := [.ref 54, .int x1, .int x2]) (r := []) (n := 3) (m := 3) (by with_unfolding_all rfl) rfl (by decide) (by with_unfolding_all rfl) (by decide) (by with_unfolding_all rfl) ⟨fun _ => am_rec_ok (c := 3) (by with_unfolding_all rfl) (by decide +kernel), fun z => by simp at z⟩
set_option maxRecDepth 20000 in
theorem b_159_12 {d nS : Nat} {x1 x2 s0 : Int32} {M : am_M} {Q : Option Value → am_H → Prop} : am_Wp d 159 12 [.ref 16, .int x1, .int x2] [.int s0] (hp nS M) Q = Q (some (.int s0)) (hp nS M) := by
  exact eq_retI2 (e := (.ireturn, 1, 0, 0, 0)) (t := .int) (by with_unfolding_all rfl) rfl (by with_unfolding_all rfl) rfl
-- LarkExchange packed(II)I (160, (16, None, None))
set_option maxRecDepth 20000 in
theorem b_160_0 {d nS : Nat} {x1 x2 : Int32} {M : am_M} {Q : Option Value → am_H → Prop} : am_Wp (d + 1) 160 0 [.ref 16, .int x1, .int x2] [] (hp nS M) Q = am_Wp d 125 0 [.int x1, .int 0, .int 99] [] (hp nS M) (fun v h1 => am_Wp (d + 1) 160 7 [.ref 16, .int x1, .int x2] (am_ans v []) h1 Q) := by
  refine (eq_run 3 (q := (4, [.ref 16, .int x1, .int x2], [.int 99, .int 0, .int x1], hp nS M)) (by with_unfolding_all rfl)).trans ?_
  exact eq_call2 (e := (.invokestatic 57, 3, 1, 125, 7)) (as := [.int x1, .int 0, .int 99]) (r := []) (n := 3) (m := 3) (by with_unfolding_all rfl) rfl (by decide) (by with_unfolding_all rfl) (by decide) (by with_unfolding_all rfl) ⟨fun z => absurd z (by decide), fun z => by simp at z⟩
set_option maxRecDepth 20000 in
theorem b_160_7 {d nS : Nat} {x1 x2 s0 : Int32} {M : am_M} {Q : Option Value → am_H → Prop} : am_Wp d 160 7 [.ref 16, .int x1, .int x2] [.int s0] (hp nS M) Q = if ¬ s0 = 0 then am_Wp d 160 19 [.ref 16, .int x1, .int x2] [] (hp nS M) Q else am_Wp d 160 10 [.ref 16, .int x1, .int x2] [] (hp nS M) Q := by
  exact eq_if_ne (by with_unfolding_all rfl)
set_option maxRecDepth 20000 in
theorem b_160_10 {d nS : Nat} {x1 x2 : Int32} {M : am_M} {Q : Option Value → am_H → Prop} : am_Wp (d + 1) 160 10 [.ref 16, .int x1, .int x2] [] (hp nS M) Q = am_Wp d 125 0 [.int x2, .int 0, .int 2] [] (hp nS M) (fun v h1 => am_Wp (d + 1) 160 16 [.ref 16, .int x1, .int x2] (am_ans v []) h1 Q) := by
  refine (eq_run 3 (q := (13, [.ref 16, .int x1, .int x2], [.int 2, .int 0, .int x2], hp nS M)) (by with_unfolding_all rfl)).trans ?_
  exact eq_call2 (e := (.invokestatic 57, 3, 1, 125, 7)) (as := [.int x2, .int 0, .int 2]) (r := []) (n := 3) (m := 3) (by with_unfolding_all rfl) rfl (by decide) (by with_unfolding_all rfl) (by decide) (by with_unfolding_all rfl) ⟨fun z => absurd z (by decide), fun z => by simp at z⟩
set_option maxRecDepth 20000 in
theorem b_160_16 {d nS : Nat} {x1 x2 s0 : Int32} {M : am_M} {Q : Option Value → am_H → Prop} : am_Wp d 160 16 [.ref 16, .int x1, .int x2] [.int s0] (hp nS M) Q = if s0 = 0 then am_Wp d 160 21 [.ref 16, .int x1, .int x2] [] (hp nS M) Q else am_Wp d 160 19 [.ref 16, .int x1, .int x2] [] (hp nS M) Q := by
  exact eq_if_eq (by with_unfolding_all rfl)
set_option maxRecDepth 20000 in
theorem b_160_19 {d nS : Nat} {x1 x2 : Int32} {M : am_M} {Q : Option Value → am_H → Prop} : am_Wp d 160 19 [.ref 16, .int x1, .int x2] [] (hp nS M) Q = Q (some (.int (-1))) (hp nS M) := by
  refine (eq_run 1 (q := (20, [.ref 16, .int x1, .int x2], [.int (-1)], hp nS M)) (by with_unfolding_all rfl)).trans ?_
  exact eq_retI2 (e := (.ireturn, 1, 0, 0, 0)) (t := .int) (by with_unfolding_all rfl) rfl (by with_unfolding_all rfl) rfl
set_option maxRecDepth 20000 in
theorem b_160_21 {d nS : Nat} {x1 x2 : Int32} {M : am_M} {Q : Option Value → am_H → Prop} : am_Wp (d + 1) 160 21 [.ref 16, .int x1, .int x2] [] (hp nS M) Q = am_Wp d 7 0 [.ref 54, .int x1, .int x2, .retAddr 0, .retAddr 0, .retAddr 0, .retAddr 0, .retAddr 0, .retAddr 0] [] (hp nS M) (fun v h1 => am_Wp (d + 1) 160 33 [.ref 16, .int x1, .int x2] (am_ans v []) h1 Q) := by
  refine (eq_run 5 (q := (30, [.ref 16, .int x1, .int x2], [.int x2, .int x1, .ref 54], hp nS M)) (by with_unfolding_all rfl)).trans ?_
  exact eq_call2 (e := (.invokevirtual 322, 3, 0, 7, 57)) (as := [.ref 54, .int x1, .int x2]) (r := []) (n := 3) (m := 9) (by with_unfolding_all rfl) rfl (by decide) (by with_unfolding_all rfl) (by decide) (by with_unfolding_all rfl) ⟨fun _ => am_rec_ok (c := 3) (by with_unfolding_all rfl) (by decide +kernel), fun z => by simp at z⟩
set_option maxRecDepth 20000 in
theorem b_160_33 {d nS : Nat} {x1 x2 s0 : Int32} {M : am_M} {Q : Option Value → am_H → Prop} : am_Wp d 160 33 [.ref 16, .int x1, .int x2] [.int s0] (hp nS M) Q = Q (some (.int s0)) (hp nS M) := by
  exact eq_retI2 (e := (.ireturn, 1, 0, 0, 0)) (t := .int) (by with_unfolding_all rfl) rfl (by with_unfolding_all rfl) rfl
-- LarkExchange shares(II)I (161, (16, None, None))
set_option maxRecDepth 20000 in
theorem b_161_0 {d nS : Nat} {x1 x2 : Int32} {M : am_M} {Q : Option Value → am_H → Prop} : am_Wp (d + 1) 161 0 [.ref 16, .int x1, .int x2] [] (hp nS M) Q = am_Wp d 125 0 [.int x1, .int 1, .int 60] [] (hp nS M) (fun v h1 => am_Wp (d + 1) 161 7 [.ref 16, .int x1, .int x2] (am_ans v []) h1 Q) := by
  refine (eq_run 3 (q := (4, [.ref 16, .int x1, .int x2], [.int 60, .int 1, .int x1], hp nS M)) (by with_unfolding_all rfl)).trans ?_
  exact eq_call2 (e := (.invokestatic 57, 3, 1, 125, 7)) (as := [.int x1, .int 1, .int 60]) (r := []) (n := 3) (m := 3) (by with_unfolding_all rfl) rfl (by decide) (by with_unfolding_all rfl) (by decide) (by with_unfolding_all rfl) ⟨fun z => absurd z (by decide), fun z => by simp at z⟩
set_option maxRecDepth 20000 in
theorem b_161_7 {d nS : Nat} {x1 x2 s0 : Int32} {M : am_M} {Q : Option Value → am_H → Prop} : am_Wp d 161 7 [.ref 16, .int x1, .int x2] [.int s0] (hp nS M) Q = if s0 = 0 then am_Wp d 161 12 [.ref 16, .int x1, .int x2] [] (hp nS M) Q else am_Wp d 161 10 [.ref 16, .int x1, .int x2] [] (hp nS M) Q := by
  exact eq_if_eq (by with_unfolding_all rfl)
set_option maxRecDepth 20000 in
theorem b_161_10 {d nS : Nat} {x1 x2 : Int32} {M : am_M} {Q : Option Value → am_H → Prop} : am_Wp d 161 10 [.ref 16, .int x1, .int x2] [] (hp nS M) Q = Q (some (.int (-1))) (hp nS M) := by
  refine (eq_run 1 (q := (11, [.ref 16, .int x1, .int x2], [.int (-1)], hp nS M)) (by with_unfolding_all rfl)).trans ?_
  exact eq_retI2 (e := (.ireturn, 1, 0, 0, 0)) (t := .int) (by with_unfolding_all rfl) rfl (by with_unfolding_all rfl) rfl
set_option maxRecDepth 20000 in
theorem b_161_12 {d nS : Nat} {x1 x2 : Int32} {M : am_M} {Q : Option Value → am_H → Prop} : am_Wp d 161 12 [.ref 16, .int x1, .int x2] [] (hp nS M) Q = if ¬ x2 = 0 then am_Wp d 161 25 [.ref 16, .int x1, .int x2] [] (hp nS M) Q else am_Wp d 161 16 [.ref 16, .int x1, .int x2] [] (hp nS M) Q := by
  refine (eq_run 1 (q := (13, [.ref 16, .int x1, .int x2], [.int x2], hp nS M)) (by with_unfolding_all rfl)).trans ?_
  exact eq_if_ne (by with_unfolding_all rfl)
set_option maxRecDepth 20000 in
theorem b_161_16 {d nS : Nat} {x1 x2 : Int32} {M : am_M} {Q : Option Value → am_H → Prop} : am_Wp (d + 1) 161 16 [.ref 16, .int x1, .int x2] [] (hp nS M) Q = am_Wp d 87 0 [.ref 202, .int x1, .retAddr 0, .retAddr 0] [] (hp nS M) (fun v h1 => am_Wp (d + 1) 161 24 [.ref 16, .int x1, .int x2] (am_ans v []) h1 Q) := by
  refine (eq_run 3 (q := (21, [.ref 16, .int x1, .int x2], [.int x1, .ref 202], hp nS M)) (by with_unfolding_all rfl)).trans ?_
  exact eq_call2 (e := (.invokevirtual 325, 3, 0, 87, 58)) (as := [.ref 202, .int x1]) (r := []) (n := 2) (m := 4) (by with_unfolding_all rfl) rfl (by decide) (by with_unfolding_all rfl) (by decide) (by with_unfolding_all rfl) ⟨fun _ => am_rec_ok (c := 10) (by with_unfolding_all rfl) (by decide +kernel), fun z => by simp at z⟩
set_option maxRecDepth 20000 in
theorem b_161_24 {d nS : Nat} {x1 x2 s0 : Int32} {M : am_M} {Q : Option Value → am_H → Prop} : am_Wp d 161 24 [.ref 16, .int x1, .int x2] [.int s0] (hp nS M) Q = Q (some (.int s0)) (hp nS M) := by
  exact eq_retI2 (e := (.ireturn, 1, 0, 0, 0)) (t := .int) (by with_unfolding_all rfl) rfl (by with_unfolding_all rfl) rfl
set_option maxRecDepth 20000 in
theorem b_161_25 {d nS : Nat} {x1 x2 : Int32} {M : am_M} {Q : Option Value → am_H → Prop} : am_Wp d 161 25 [.ref 16, .int x1, .int x2] [] (hp nS M) Q = if ¬ x2 = 1 then am_Wp d 161 41 [.ref 16, .int x1, .int x2] [] (hp nS M) Q else am_Wp d 161 30 [.ref 16, .int x1, .int x2] [] (hp nS M) Q := by
  refine (eq_run 2 (q := (27, [.ref 16, .int x1, .int x2], [.int 1, .int x2], hp nS M)) (by with_unfolding_all rfl)).trans ?_
  exact eq_cmp_ne (by with_unfolding_all rfl)
set_option maxRecDepth 20000 in
theorem b_161_30 {d nS : Nat} {x1 x2 : Int32} {M : am_M} {Q : Option Value → am_H → Prop} : am_Wp (d + 1) 161 30 [.ref 16, .int x1, .int x2] [] (hp nS M) Q = am_Wp d 88 0 [.ref 202, .int x1, .int x1, .int 1, .retAddr 0, .retAddr 0] [] (hp nS M) (fun v h1 => am_Wp (d + 1) 161 40 [.ref 16, .int x1, .int x2] (am_ans v []) h1 Q) := by
  refine (eq_run 5 (q := (37, [.ref 16, .int x1, .int x2], [.int 1, .int x1, .int x1, .ref 202], hp nS M)) (by with_unfolding_all rfl)).trans ?_
  exact eq_call2 (e := (.invokevirtual 328, 3, 0, 88, 59)) (as := [.ref 202, .int x1, .int x1, .int 1]) (r := []) (n := 4) (m := 6) (by with_unfolding_all rfl) rfl (by decide) (by with_unfolding_all rfl) (by decide) (by with_unfolding_all rfl) ⟨fun _ => am_rec_ok (c := 10) (by with_unfolding_all rfl) (by decide +kernel), fun z => by simp at z⟩
set_option maxRecDepth 20000 in
theorem b_161_40 {d nS : Nat} {x1 x2 s0 : Int32} {M : am_M} {Q : Option Value → am_H → Prop} : am_Wp d 161 40 [.ref 16, .int x1, .int x2] [.int s0] (hp nS M) Q = Q (some (.int s0)) (hp nS M) := by
  exact eq_retI2 (e := (.ireturn, 1, 0, 0, 0)) (t := .int) (by with_unfolding_all rfl) rfl (by with_unfolding_all rfl) rfl
set_option maxRecDepth 20000 in
theorem b_161_41 {d nS : Nat} {x1 x2 : Int32} {M : am_M} {Q : Option Value → am_H → Prop} : am_Wp (d + 1) 161 41 [.ref 16, .int x1, .int x2] [] (hp nS M) Q = am_Wp d 125 0 [.int x2, .int 101, .int 160] [] (hp nS M) (fun v h1 => am_Wp (d + 1) 161 50 [.ref 16, .int x1, .int x2] (am_ans v []) h1 Q) := by
  refine (eq_run 3 (q := (47, [.ref 16, .int x1, .int x2], [.int 160, .int 101, .int x2], hp nS M)) (by with_unfolding_all rfl)).trans ?_
  exact eq_call2 (e := (.invokestatic 57, 3, 1, 125, 7)) (as := [.int x2, .int 101, .int 160]) (r := []) (n := 3) (m := 3) (by with_unfolding_all rfl) rfl (by decide) (by with_unfolding_all rfl) (by decide) (by with_unfolding_all rfl) ⟨fun z => absurd z (by decide), fun z => by simp at z⟩
set_option maxRecDepth 20000 in
theorem b_161_50 {d nS : Nat} {x1 x2 s0 : Int32} {M : am_M} {Q : Option Value → am_H → Prop} : am_Wp d 161 50 [.ref 16, .int x1, .int x2] [.int s0] (hp nS M) Q = if s0 = 0 then am_Wp d 161 57 [.ref 16, .int x1, .int x2] [] (hp nS M) Q else am_Wp d 161 53 [.ref 16, .int x1, .int x2] [] (hp nS M) Q := by
  exact eq_if_eq (by with_unfolding_all rfl)
set_option maxRecDepth 20000 in
theorem b_161_53 {d nS : Nat} {x1 x2 : Int32} {M : am_M} {Q : Option Value → am_H → Prop} : am_Wp d 161 53 [.ref 16, .int x1, .int x2] [] (hp nS M) Q = am_Wp d 161 70 [.ref 16, .int x1, .int x2] [.int (-1)] (hp nS M) Q := by
  exact eq_run 2 (q := (70, [.ref 16, .int x1, .int x2], [.int (-1)], hp nS M)) (by with_unfolding_all rfl)
set_option maxRecDepth 20000 in
theorem b_161_57 {d nS : Nat} {x1 x2 : Int32} {M : am_M} {Q : Option Value → am_H → Prop} : am_Wp (d + 1) 161 57 [.ref 16, .int x1, .int x2] [] (hp nS M) Q = am_Wp d 88 0 [.ref 202, .int x1, .int (x2 - 100), .int 0, .retAddr 0, .retAddr 0] [] (hp nS M) (fun v h1 => am_Wp (d + 1) 161 70 [.ref 16, .int x1, .int x2] (am_ans v []) h1 Q) := by
  refine (eq_run 7 (q := (67, [.ref 16, .int x1, .int x2], [.int 0, .int (x2 - 100), .int x1, .ref 202], hp nS M)) (by with_unfolding_all rfl)).trans ?_
  exact eq_call2 (e := (.invokevirtual 328, 3, 0, 88, 59)) (as := [.ref 202, .int x1, .int (x2 - 100), .int 0]) (r := []) (n := 4) (m := 6) (by with_unfolding_all rfl) rfl (by decide) (by with_unfolding_all rfl) (by decide) (by with_unfolding_all rfl) ⟨fun _ => am_rec_ok (c := 10) (by with_unfolding_all rfl) (by decide +kernel), fun z => by simp at z⟩
set_option maxRecDepth 20000 in
theorem b_161_70 {d nS : Nat} {x1 x2 s0 : Int32} {M : am_M} {Q : Option Value → am_H → Prop} : am_Wp d 161 70 [.ref 16, .int x1, .int x2] [.int s0] (hp nS M) Q = Q (some (.int s0)) (hp nS M) := by
  exact eq_retI2 (e := (.ireturn, 1, 0, 0, 0)) (t := .int) (by with_unfolding_all rfl) rfl (by with_unfolding_all rfl) rfl
-- LarkExchange game(III)I (162, (16, None, None, None))
set_option maxRecDepth 20000 in
theorem b_162_0 {d nS : Nat} {x1 x2 x3 : Int32} {M : am_M} {Q : Option Value → am_H → Prop} : am_Wp (d + 1) 162 0 [.ref 16, .int x1, .int x2, .int x3] [] (hp nS M) Q = am_Wp d 125 0 [.int x1, .int 0, .int 99] [] (hp nS M) (fun v h1 => am_Wp (d + 1) 162 7 [.ref 16, .int x1, .int x2, .int x3] (am_ans v []) h1 Q) := by
  refine (eq_run 3 (q := (4, [.ref 16, .int x1, .int x2, .int x3], [.int 99, .int 0, .int x1], hp nS M)) (by with_unfolding_all rfl)).trans ?_
  exact eq_call2 (e := (.invokestatic 57, 3, 1, 125, 7)) (as := [.int x1, .int 0, .int 99]) (r := []) (n := 3) (m := 3) (by with_unfolding_all rfl) rfl (by decide) (by with_unfolding_all rfl) (by decide) (by with_unfolding_all rfl) ⟨fun z => absurd z (by decide), fun z => by simp at z⟩
set_option maxRecDepth 20000 in
theorem b_162_7 {d nS : Nat} {x1 x2 x3 s0 : Int32} {M : am_M} {Q : Option Value → am_H → Prop} : am_Wp d 162 7 [.ref 16, .int x1, .int x2, .int x3] [.int s0] (hp nS M) Q = if ¬ s0 = 0 then am_Wp d 162 35 [.ref 16, .int x1, .int x2, .int x3] [] (hp nS M) Q else am_Wp d 162 10 [.ref 16, .int x1, .int x2, .int x3] [] (hp nS M) Q := by
  exact eq_if_ne (by with_unfolding_all rfl)
set_option maxRecDepth 20000 in
theorem b_162_10 {d nS : Nat} {x1 x2 x3 : Int32} {M : am_M} {Q : Option Value → am_H → Prop} : am_Wp (d + 1) 162 10 [.ref 16, .int x1, .int x2, .int x3] [] (hp nS M) Q = am_Wp d 125 0 [.int x2, .int 1, .int 100] [] (hp nS M) (fun v h1 => am_Wp (d + 1) 162 17 [.ref 16, .int x1, .int x2, .int x3] (am_ans v []) h1 Q) := by
  refine (eq_run 3 (q := (14, [.ref 16, .int x1, .int x2, .int x3], [.int 100, .int 1, .int x2], hp nS M)) (by with_unfolding_all rfl)).trans ?_
  exact eq_call2 (e := (.invokestatic 57, 3, 1, 125, 7)) (as := [.int x2, .int 1, .int 100]) (r := []) (n := 3) (m := 3) (by with_unfolding_all rfl) rfl (by decide) (by with_unfolding_all rfl) (by decide) (by with_unfolding_all rfl) ⟨fun z => absurd z (by decide), fun z => by simp at z⟩
set_option maxRecDepth 20000 in
theorem b_162_17 {d nS : Nat} {x1 x2 x3 s0 : Int32} {M : am_M} {Q : Option Value → am_H → Prop} : am_Wp d 162 17 [.ref 16, .int x1, .int x2, .int x3] [.int s0] (hp nS M) Q = if ¬ s0 = 0 then am_Wp d 162 35 [.ref 16, .int x1, .int x2, .int x3] [] (hp nS M) Q else am_Wp d 162 20 [.ref 16, .int x1, .int x2, .int x3] [] (hp nS M) Q := by
  exact eq_if_ne (by with_unfolding_all rfl)
set_option maxRecDepth 20000 in
theorem b_162_20 {d nS : Nat} {x1 x2 x3 : Int32} {M : am_M} {Q : Option Value → am_H → Prop} : am_Wp d 162 20 [.ref 16, .int x1, .int x2, .int x3] [] (hp nS M) Q = if x2 ≤ x1 then am_Wp d 162 35 [.ref 16, .int x1, .int x2, .int x3] [] (hp nS M) Q else am_Wp d 162 25 [.ref 16, .int x1, .int x2, .int x3] [] (hp nS M) Q := by
  refine (eq_run 2 (q := (22, [.ref 16, .int x1, .int x2, .int x3], [.int x2, .int x1], hp nS M)) (by with_unfolding_all rfl)).trans ?_
  exact eq_cmp_ge (by with_unfolding_all rfl)
set_option maxRecDepth 20000 in
theorem b_162_25 {d nS : Nat} {x1 x2 x3 : Int32} {M : am_M} {Q : Option Value → am_H → Prop} : am_Wp (d + 1) 162 25 [.ref 16, .int x1, .int x2, .int x3] [] (hp nS M) Q = am_Wp d 125 0 [.int x3, .int 2, .int 9] [] (hp nS M) (fun v h1 => am_Wp (d + 1) 162 32 [.ref 16, .int x1, .int x2, .int x3] (am_ans v []) h1 Q) := by
  refine (eq_run 3 (q := (29, [.ref 16, .int x1, .int x2, .int x3], [.int 9, .int 2, .int x3], hp nS M)) (by with_unfolding_all rfl)).trans ?_
  exact eq_call2 (e := (.invokestatic 57, 3, 1, 125, 7)) (as := [.int x3, .int 2, .int 9]) (r := []) (n := 3) (m := 3) (by with_unfolding_all rfl) rfl (by decide) (by with_unfolding_all rfl) (by decide) (by with_unfolding_all rfl) ⟨fun z => absurd z (by decide), fun z => by simp at z⟩
set_option maxRecDepth 20000 in
theorem b_162_32 {d nS : Nat} {x1 x2 x3 s0 : Int32} {M : am_M} {Q : Option Value → am_H → Prop} : am_Wp d 162 32 [.ref 16, .int x1, .int x2, .int x3] [.int s0] (hp nS M) Q = if s0 = 0 then am_Wp d 162 37 [.ref 16, .int x1, .int x2, .int x3] [] (hp nS M) Q else am_Wp d 162 35 [.ref 16, .int x1, .int x2, .int x3] [] (hp nS M) Q := by
  exact eq_if_eq (by with_unfolding_all rfl)
set_option maxRecDepth 20000 in
theorem b_162_35 {d nS : Nat} {x1 x2 x3 : Int32} {M : am_M} {Q : Option Value → am_H → Prop} : am_Wp d 162 35 [.ref 16, .int x1, .int x2, .int x3] [] (hp nS M) Q = Q (some (.int (-1))) (hp nS M) := by
  refine (eq_run 1 (q := (36, [.ref 16, .int x1, .int x2, .int x3], [.int (-1)], hp nS M)) (by with_unfolding_all rfl)).trans ?_
  exact eq_retI2 (e := (.ireturn, 1, 0, 0, 0)) (t := .int) (by with_unfolding_all rfl) rfl (by with_unfolding_all rfl) rfl
set_option maxRecDepth 20000 in
theorem b_162_37 {d nS : Nat} {x1 x2 x3 : Int32} {M : am_M} {Q : Option Value → am_H → Prop} : am_Wp (d + 1) 162 37 [.ref 16, .int x1, .int x2, .int x3] [] (hp nS M) Q = am_Wp d 89 0 [.ref 202, .int x1, .int x2, .int x3, .retAddr 0, .retAddr 0] [] (hp nS M) (fun v h1 => am_Wp (d + 1) 162 47 [.ref 16, .int x1, .int x2, .int x3] (am_ans v []) h1 Q) := by
  refine (eq_run 5 (q := (44, [.ref 16, .int x1, .int x2, .int x3], [.int x3, .int x2, .int x1, .ref 202], hp nS M)) (by with_unfolding_all rfl)).trans ?_
  exact eq_call2 (e := (.invokevirtual 332, 3, 0, 89, 60)) (as := [.ref 202, .int x1, .int x2, .int x3]) (r := []) (n := 4) (m := 6) (by with_unfolding_all rfl) rfl (by decide) (by with_unfolding_all rfl) (by decide) (by with_unfolding_all rfl) ⟨fun _ => am_rec_ok (c := 10) (by with_unfolding_all rfl) (by decide +kernel), fun z => by simp at z⟩
set_option maxRecDepth 20000 in
theorem b_162_47 {d nS : Nat} {x1 x2 x3 s0 : Int32} {M : am_M} {Q : Option Value → am_H → Prop} : am_Wp d 162 47 [.ref 16, .int x1, .int x2, .int x3] [.int s0] (hp nS M) Q = Q (some (.int s0)) (hp nS M) := by
  exact eq_retI2 (e := (.ireturn, 1, 0, 0, 0)) (t := .int) (by with_unfolding_all rfl) rfl (by with_unfolding_all rfl) rfl
-- LarkExchange undo()Z (163, (16,))
set_option maxRecDepth 20000 in
theorem b_163_0 {d nS : Nat} {M : am_M} {Q : Option Value → am_H → Prop} : am_Wp (d + 1) 163 0 [.ref 16] [] (hp nS M) Q = am_Wp d 39 0 [.ref 113, .ref 18] [] (hp nS M) (fun v h1 => am_Wp (d + 1) 163 14 [.ref 16] (am_ans v []) h1 Q) := by
  refine (eq_run 5 (q := (11, [.ref 16], [.ref 18, .ref 113], hp nS M)) (by with_unfolding_all rfl)).trans ?_
  exact eq_call2 (e := (.invokevirtual 335, 3, 0, 39, 61)) (as := [.ref 113, .ref 18]) (r := []) (n := 2) (m := 2) (by with_unfolding_all rfl) rfl (by decide) (by with_unfolding_all rfl) (by decide) (by with_unfolding_all rfl) ⟨fun _ => am_rec_ok (c := 7) (by with_unfolding_all rfl) (by decide +kernel), fun z => by simp at z⟩
set_option maxRecDepth 20000 in
theorem b_163_14 {d nS : Nat} {s0 : Int32} {M : am_M} {Q : Option Value → am_H → Prop} (h1 : am_rok .boolean s0 = true) : am_Wp d 163 14 [.ref 16] [.int s0] (hp nS M) Q = Q (some (.int s0)) (hp nS M) := by
  exact eq_retI2 (e := (.ireturn, 1, 0, 0, 0)) (t := .boolean) (by with_unfolding_all rfl) rfl (by with_unfolding_all rfl) h1
-- LarkExchange image(Z)Z (164, (16, None))
set_option maxRecDepth 20000 in
theorem b_164_0 {d nS : Nat} {x1 : Int32} {M : am_M} {Q : Option Value → am_H → Prop} : am_Wp d 164 0 [.ref 16, .int x1] [] (hp nS M) Q = if x1 = 0 then am_Wp d 164 22 [.ref 16, .int x1] [] (hp nS M) Q else am_Wp d 164 4 [.ref 16, .int x1] [] (hp nS M) Q := by
  refine (eq_run 1 (q := (1, [.ref 16, .int x1], [.int x1], hp nS M)) (by with_unfolding_all rfl)).trans ?_
  exact eq_if_eq (by with_unfolding_all rfl)
set_option maxRecDepth 20000 in
theorem b_164_4 {d nS : Nat} {x1 : Int32} {M : am_M} {Q : Option Value → am_H → Prop} : am_Wp (d + 1) 164 4 [.ref 16, .int x1] [] (hp nS M) Q = am_Wp d 101 0 [.ref 59, .ref 17] [] (hp nS M) (fun v h1 => am_Wp (d + 1) 164 15 [.ref 16, .int x1] (am_ans v []) h1 Q) := by
  refine (eq_run 4 (q := (12, [.ref 16, .int x1], [.ref 17, .ref 59], hp nS M)) (by with_unfolding_all rfl)).trans ?_
  exact eq_call2 (e := (.invokevirtual 339, 3, 0, 101, 62)) (as := [.ref 59, .ref 17]) (r := []) (n := 2) (m := 2) (by with_unfolding_all rfl) rfl (by decide) (by with_unfolding_all rfl) (by decide) (by with_unfolding_all rfl) ⟨fun _ => am_rec_ok (c := 11) (by with_unfolding_all rfl) (by decide +kernel), fun z => by simp at z⟩
set_option maxRecDepth 20000 in
theorem b_164_15 {d nS : Nat} {x1 : Int32} {M : am_M} {Q : Option Value → am_H → Prop} : am_Wp d 164 15 [.ref 16, .int x1] [] (hp nS M) Q = Q (some (.int 1)) (hp nS (am_up M 16 6 1)) := by
  refine (eq_run 4 (q := (21, [.ref 16, .int x1], [.int 1], hp nS (am_up M 16 6 1))) (by with_unfolding_all rfl)).trans ?_
  exact eq_retI2 (e := (.ireturn, 1, 0, 0, 0)) (t := .boolean) (by with_unfolding_all rfl) rfl (by with_unfolding_all rfl) rfl
set_option maxRecDepth 20000 in
theorem b_164_22 {d nS : Nat} {x1 : Int32} {M : am_M} {Q : Option Value → am_H → Prop} : am_Wp d 164 22 [.ref 16, .int x1] [] (hp nS M) Q = if ¬ (M 16 6) = 0 then am_Wp d 164 31 [.ref 16, .int x1] [] (hp nS M) Q else am_Wp d 164 29 [.ref 16, .int x1] [] (hp nS M) Q := by
  refine (eq_run 2 (q := (26, [.ref 16, .int x1], [.int (M 16 6)], hp nS M)) (by with_unfolding_all rfl)).trans ?_
  exact eq_if_ne (by with_unfolding_all rfl)
set_option maxRecDepth 20000 in
theorem b_164_29 {d nS : Nat} {x1 : Int32} {M : am_M} {Q : Option Value → am_H → Prop} : am_Wp d 164 29 [.ref 16, .int x1] [] (hp nS M) Q = Q (some (.int 0)) (hp nS M) := by
  refine (eq_run 1 (q := (30, [.ref 16, .int x1], [.int 0], hp nS M)) (by with_unfolding_all rfl)).trans ?_
  exact eq_retI2 (e := (.ireturn, 1, 0, 0, 0)) (t := .boolean) (by with_unfolding_all rfl) rfl (by with_unfolding_all rfl) rfl
set_option maxRecDepth 20000 in
theorem b_164_31 {d nS : Nat} {x1 : Int32} {M : am_M} {Q : Option Value → am_H → Prop} : am_Wp (d + 1) 164 31 [.ref 16, .int x1] [] (hp nS M) Q = am_Wp d 101 0 [.ref 17, .ref 59] [] (hp nS M) (fun v h1 => am_Wp (d + 1) 164 42 [.ref 16, .int x1] (am_ans v []) h1 Q) := by
  refine (eq_run 4 (q := (39, [.ref 16, .int x1], [.ref 59, .ref 17], hp nS M)) (by with_unfolding_all rfl)).trans ?_
  exact eq_call2 (e := (.invokevirtual 339, 3, 0, 101, 62)) (as := [.ref 17, .ref 59]) (r := []) (n := 2) (m := 2) (by with_unfolding_all rfl) rfl (by decide) (by with_unfolding_all rfl) (by decide) (by with_unfolding_all rfl) ⟨fun _ => am_rec_ok (c := 11) (by with_unfolding_all rfl) (by decide +kernel), fun z => by simp at z⟩
set_option maxRecDepth 20000 in
theorem b_164_42 {d nS : Nat} {x1 : Int32} {M : am_M} {Q : Option Value → am_H → Prop} : am_Wp (d + 1) 164 42 [.ref 16, .int x1] [] (hp nS M) Q = am_Wp d 37 0 [.ref 113] [] (hp nS M) (fun v h1 => am_Wp (d + 1) 164 49 [.ref 16, .int x1] (am_ans v []) h1 Q) := by
  refine (eq_run 2 (q := (46, [.ref 16, .int x1], [.ref 113], hp nS M)) (by with_unfolding_all rfl)).trans ?_
  exact eq_call2 (e := (.invokevirtual 54, 3, 0, 37, 6)) (as := [.ref 113]) (r := []) (n := 1) (m := 1) (by with_unfolding_all rfl) rfl (by decide) (by with_unfolding_all rfl) (by decide) (by with_unfolding_all rfl) ⟨fun _ => am_rec_ok (c := 7) (by with_unfolding_all rfl) (by decide +kernel), fun z => by simp at z⟩
set_option maxRecDepth 20000 in
theorem b_164_49 {d nS : Nat} {x1 : Int32} {M : am_M} {Q : Option Value → am_H → Prop} : am_Wp d 164 49 [.ref 16, .int x1] [] (hp nS M) Q = Q (some (.int 1)) (hp nS M) := by
  refine (eq_run 1 (q := (50, [.ref 16, .int x1], [.int 1], hp nS M)) (by with_unfolding_all rfl)).trans ?_
  exact eq_retI2 (e := (.ireturn, 1, 0, 0, 0)) (t := .boolean) (by with_unfolding_all rfl) rfl (by with_unfolding_all rfl) rfl
-- LarkExchange look(I)I (165, (16, None))
set_option maxRecDepth 20000 in
theorem b_165_0 {d nS : Nat} {x1 : Int32} {M : am_M} {Q : Option Value → am_H → Prop} : am_Wp d 165 0 [.ref 16, .int x1, .retAddr 0] [] (hp nS M) Q = if x1 = 0 then am_Wp d 165 80 [.ref 16, .int x1, .ref 18] [] (hp nS M) Q else if x1 = 1 then am_Wp d 165 85 [.ref 16, .int x1, .ref 18] [] (hp nS M) Q else if x1 = 2 then am_Wp d 165 90 [.ref 16, .int x1, .ref 18] [] (hp nS M) Q else if x1 = 3 then am_Wp d 165 95 [.ref 16, .int x1, .ref 18] [] (hp nS M) Q else if x1 = 4 then am_Wp d 165 100 [.ref 16, .int x1, .ref 18] [] (hp nS M) Q else if x1 = 5 then am_Wp d 165 112 [.ref 16, .int x1, .ref 18] [] (hp nS M) Q else if x1 = 6 then am_Wp d 165 124 [.ref 16, .int x1, .ref 18] [] (hp nS M) Q else if x1 = 7 then am_Wp d 165 129 [.ref 16, .int x1, .ref 18] [] (hp nS M) Q else if x1 = 8 then am_Wp d 165 134 [.ref 16, .int x1, .ref 18] [] (hp nS M) Q else if x1 = 9 then am_Wp d 165 139 [.ref 16, .int x1, .ref 18] [] (hp nS M) Q else if x1 = 10 then am_Wp d 165 150 [.ref 16, .int x1, .ref 18] [] (hp nS M) Q else if x1 = 11 then am_Wp d 165 161 [.ref 16, .int x1, .ref 18] [] (hp nS M) Q else if x1 = 12 then am_Wp d 165 172 [.ref 16, .int x1, .ref 18] [] (hp nS M) Q else if x1 = 13 then am_Wp d 165 183 [.ref 16, .int x1, .ref 18] [] (hp nS M) Q else am_Wp d 165 191 [.ref 16, .int x1, .ref 18] [] (hp nS M) Q := by
  refine (eq_run 5 (q := (9, [.ref 16, .int x1, .ref 18], [.int x1], hp nS M)) (by with_unfolding_all rfl)).trans ?_
  by_cases c0 : x1 = 0
  · subst c0; rw [if_pos rfl]; exact eq_run 1 (q := (80, [.ref 16, .int 0, .ref 18], [], hp nS M)) (by with_unfolding_all rfl)
  rw [if_neg c0]
  by_cases c1 : x1 = 1
  · subst c1; rw [if_pos rfl]; exact eq_run 1 (q := (85, [.ref 16, .int 1, .ref 18], [], hp nS M)) (by with_unfolding_all rfl)
  rw [if_neg c1]
  by_cases c2 : x1 = 2
  · subst c2; rw [if_pos rfl]; exact eq_run 1 (q := (90, [.ref 16, .int 2, .ref 18], [], hp nS M)) (by with_unfolding_all rfl)
  rw [if_neg c2]
  by_cases c3 : x1 = 3
  · subst c3; rw [if_pos rfl]; exact eq_run 1 (q := (95, [.ref 16, .int 3, .ref 18], [], hp nS M)) (by with_unfolding_all rfl)
  rw [if_neg c3]
  by_cases c4 : x1 = 4
  · subst c4; rw [if_pos rfl]; exact eq_run 1 (q := (100, [.ref 16, .int 4, .ref 18], [], hp nS M)) (by with_unfolding_all rfl)
  rw [if_neg c4]
  by_cases c5 : x1 = 5
  · subst c5; rw [if_pos rfl]; exact eq_run 1 (q := (112, [.ref 16, .int 5, .ref 18], [], hp nS M)) (by with_unfolding_all rfl)
  rw [if_neg c5]
  by_cases c6 : x1 = 6
  · subst c6; rw [if_pos rfl]; exact eq_run 1 (q := (124, [.ref 16, .int 6, .ref 18], [], hp nS M)) (by with_unfolding_all rfl)
  rw [if_neg c6]
  by_cases c7 : x1 = 7
  · subst c7; rw [if_pos rfl]; exact eq_run 1 (q := (129, [.ref 16, .int 7, .ref 18], [], hp nS M)) (by with_unfolding_all rfl)
  rw [if_neg c7]
  by_cases c8 : x1 = 8
  · subst c8; rw [if_pos rfl]; exact eq_run 1 (q := (134, [.ref 16, .int 8, .ref 18], [], hp nS M)) (by with_unfolding_all rfl)
  rw [if_neg c8]
  by_cases c9 : x1 = 9
  · subst c9; rw [if_pos rfl]; exact eq_run 1 (q := (139, [.ref 16, .int 9, .ref 18], [], hp nS M)) (by with_unfolding_all rfl)
  rw [if_neg c9]
  by_cases c10 : x1 = 10
  · subst c10; rw [if_pos rfl]; exact eq_run 1 (q := (150, [.ref 16, .int 10, .ref 18], [], hp nS M)) (by with_unfolding_all rfl)
  rw [if_neg c10]
  by_cases c11 : x1 = 11
  · subst c11; rw [if_pos rfl]; exact eq_run 1 (q := (161, [.ref 16, .int 11, .ref 18], [], hp nS M)) (by with_unfolding_all rfl)
  rw [if_neg c11]
  by_cases c12 : x1 = 12
  · subst c12; rw [if_pos rfl]; exact eq_run 1 (q := (172, [.ref 16, .int 12, .ref 18], [], hp nS M)) (by with_unfolding_all rfl)
  rw [if_neg c12]
  by_cases c13 : x1 = 13
  · subst c13; rw [if_pos rfl]; exact eq_run 1 (q := (183, [.ref 16, .int 13, .ref 18], [], hp nS M)) (by with_unfolding_all rfl)
  rw [if_neg c13]
  exact eq_tsw_def (by with_unfolding_all rfl) (by
    have e0 : ¬ x1.toInt = 0 := fun z => c0 (Int32.toInt_inj.mp (z.trans (by decide)))
    have e1 : ¬ x1.toInt = 1 := fun z => c1 (Int32.toInt_inj.mp (z.trans (by decide)))
    have e2 : ¬ x1.toInt = 2 := fun z => c2 (Int32.toInt_inj.mp (z.trans (by decide)))
    have e3 : ¬ x1.toInt = 3 := fun z => c3 (Int32.toInt_inj.mp (z.trans (by decide)))
    have e4 : ¬ x1.toInt = 4 := fun z => c4 (Int32.toInt_inj.mp (z.trans (by decide)))
    have e5 : ¬ x1.toInt = 5 := fun z => c5 (Int32.toInt_inj.mp (z.trans (by decide)))
    have e6 : ¬ x1.toInt = 6 := fun z => c6 (Int32.toInt_inj.mp (z.trans (by decide)))
    have e7 : ¬ x1.toInt = 7 := fun z => c7 (Int32.toInt_inj.mp (z.trans (by decide)))
    have e8 : ¬ x1.toInt = 8 := fun z => c8 (Int32.toInt_inj.mp (z.trans (by decide)))
    have e9 : ¬ x1.toInt = 9 := fun z => c9 (Int32.toInt_inj.mp (z.trans (by decide)))
    have e10 : ¬ x1.toInt = 10 := fun z => c10 (Int32.toInt_inj.mp (z.trans (by decide)))
    have e11 : ¬ x1.toInt = 11 := fun z => c11 (Int32.toInt_inj.mp (z.trans (by decide)))
    have e12 : ¬ x1.toInt = 12 := fun z => c12 (Int32.toInt_inj.mp (z.trans (by decide)))
    have e13 : ¬ x1.toInt = 13 := fun z => c13 (Int32.toInt_inj.mp (z.trans (by decide)))
    omega)
set_option maxRecDepth 20000 in
theorem b_165_80 {d nS : Nat} {x1 : Int32} {M : am_M} {Q : Option Value → am_H → Prop} : am_Wp d 165 80 [.ref 16, .int x1, .ref 18] [] (hp nS M) Q = Q (some (.int (M 18 0))) (hp nS M) := by
  refine (eq_run 2 (q := (84, [.ref 16, .int x1, .ref 18], [.int (M 18 0)], hp nS M)) (by with_unfolding_all rfl)).trans ?_
  exact eq_retI2 (e := (.ireturn, 1, 0, 0, 0)) (t := .int) (by with_unfolding_all rfl) rfl (by with_unfolding_all rfl) rfl
set_option maxRecDepth 20000 in
theorem b_165_85 {d nS : Nat} {x1 : Int32} {M : am_M} {Q : Option Value → am_H → Prop} : am_Wp d 165 85 [.ref 16, .int x1, .ref 18] [] (hp nS M) Q = Q (some (.int (M 18 1))) (hp nS M) := by
  refine (eq_run 2 (q := (89, [.ref 16, .int x1, .ref 18], [.int (M 18 1)], hp nS M)) (by with_unfolding_all rfl)).trans ?_
  exact eq_retI2 (e := (.ireturn, 1, 0, 0, 0)) (t := .int) (by with_unfolding_all rfl) rfl (by with_unfolding_all rfl) rfl
set_option maxRecDepth 20000 in
theorem b_165_90 {d nS : Nat} {x1 : Int32} {M : am_M} {Q : Option Value → am_H → Prop} : am_Wp d 165 90 [.ref 16, .int x1, .ref 18] [] (hp nS M) Q = Q (some (.int (M 18 2))) (hp nS M) := by
  refine (eq_run 2 (q := (94, [.ref 16, .int x1, .ref 18], [.int (M 18 2)], hp nS M)) (by with_unfolding_all rfl)).trans ?_
  exact eq_retI2 (e := (.ireturn, 1, 0, 0, 0)) (t := .int) (by with_unfolding_all rfl) rfl (by with_unfolding_all rfl) rfl
set_option maxRecDepth 20000 in
theorem b_165_95 {d nS : Nat} {x1 : Int32} {M : am_M} {Q : Option Value → am_H → Prop} : am_Wp d 165 95 [.ref 16, .int x1, .ref 18] [] (hp nS M) Q = Q (some (.int (M 18 3))) (hp nS M) := by
  refine (eq_run 2 (q := (99, [.ref 16, .int x1, .ref 18], [.int (M 18 3)], hp nS M)) (by with_unfolding_all rfl)).trans ?_
  exact eq_retI2 (e := (.ireturn, 1, 0, 0, 0)) (t := .int) (by with_unfolding_all rfl) rfl (by with_unfolding_all rfl) rfl
set_option maxRecDepth 20000 in
theorem b_165_100 {d nS : Nat} {x1 : Int32} {M : am_M} {Q : Option Value → am_H → Prop} : am_Wp (d + 1) 165 100 [.ref 16, .int x1, .ref 18] [] (hp nS M) Q = am_Wp d 166 0 [.ref 22, .int (M 18 0), .retAddr 0, .retAddr 0] [] (hp nS M) (fun v h1 => am_Wp (d + 1) 165 111 [.ref 16, .int x1, .ref 18] (am_ans v []) h1 Q) := by
  refine (eq_run 4 (q := (108, [.ref 16, .int x1, .ref 18], [.int (M 18 0), .ref 22], hp nS M)) (by with_unfolding_all rfl)).trans ?_
  exact eq_call2 (e := (.invokestatic 349, 3, 1, 166, 63)) (as := [.ref 22, .int (M 18 0)]) (r := []) (n := 2) (m := 4) (by with_unfolding_all rfl) rfl (by decide) (by with_unfolding_all rfl) (by decide) (by with_unfolding_all rfl) ⟨fun z => absurd z (by decide), fun z => by simp at z⟩
set_option maxRecDepth 20000 in
theorem b_165_111 {d nS : Nat} {x1 s0 : Int32} {M : am_M} {Q : Option Value → am_H → Prop} : am_Wp d 165 111 [.ref 16, .int x1, .ref 18] [.int s0] (hp nS M) Q = Q (some (.int s0)) (hp nS M) := by
  exact eq_retI2 (e := (.ireturn, 1, 0, 0, 0)) (t := .int) (by with_unfolding_all rfl) rfl (by with_unfolding_all rfl) rfl
set_option maxRecDepth 20000 in
theorem b_165_112 {d nS : Nat} {x1 : Int32} {M : am_M} {Q : Option Value → am_H → Prop} : am_Wp (d + 1) 165 112 [.ref 16, .int x1, .ref 18] [] (hp nS M) Q = am_Wp d 166 0 [.ref 28, .int (M 18 2), .retAddr 0, .retAddr 0] [] (hp nS M) (fun v h1 => am_Wp (d + 1) 165 123 [.ref 16, .int x1, .ref 18] (am_ans v []) h1 Q) := by
  refine (eq_run 4 (q := (120, [.ref 16, .int x1, .ref 18], [.int (M 18 2), .ref 28], hp nS M)) (by with_unfolding_all rfl)).trans ?_
  exact eq_call2 (e := (.invokestatic 349, 3, 1, 166, 63)) (as := [.ref 28, .int (M 18 2)]) (r := []) (n := 2) (m := 4) (by with_unfolding_all rfl) rfl (by decide) (by with_unfolding_all rfl) (by decide) (by with_unfolding_all rfl) ⟨fun z => absurd z (by decide), fun z => by simp at z⟩
set_option maxRecDepth 20000 in
theorem b_165_123 {d nS : Nat} {x1 s0 : Int32} {M : am_M} {Q : Option Value → am_H → Prop} : am_Wp d 165 123 [.ref 16, .int x1, .ref 18] [.int s0] (hp nS M) Q = Q (some (.int s0)) (hp nS M) := by
  exact eq_retI2 (e := (.ireturn, 1, 0, 0, 0)) (t := .int) (by with_unfolding_all rfl) rfl (by with_unfolding_all rfl) rfl
set_option maxRecDepth 20000 in
theorem b_165_124 {d nS : Nat} {x1 : Int32} {M : am_M} {Q : Option Value → am_H → Prop} : am_Wp d 165 124 [.ref 16, .int x1, .ref 18] [] (hp nS M) Q = Q (some (.int (M 18 4))) (hp nS M) := by
  refine (eq_run 2 (q := (128, [.ref 16, .int x1, .ref 18], [.int (M 18 4)], hp nS M)) (by with_unfolding_all rfl)).trans ?_
  exact eq_retI2 (e := (.ireturn, 1, 0, 0, 0)) (t := .int) (by with_unfolding_all rfl) rfl (by with_unfolding_all rfl) rfl
set_option maxRecDepth 20000 in
theorem b_165_129 {d nS : Nat} {x1 : Int32} {M : am_M} {Q : Option Value → am_H → Prop} : am_Wp d 165 129 [.ref 16, .int x1, .ref 18] [] (hp nS M) Q = Q (some (.int (M 18 6))) (hp nS M) := by
  refine (eq_run 2 (q := (133, [.ref 16, .int x1, .ref 18], [.int (M 18 6)], hp nS M)) (by with_unfolding_all rfl)).trans ?_
  exact eq_retI2 (e := (.ireturn, 1, 0, 0, 0)) (t := .int) (by with_unfolding_all rfl) rfl (by with_unfolding_all rfl) rfl
set_option maxRecDepth 20000 in
theorem b_165_134 {d nS : Nat} {x1 : Int32} {M : am_M} {Q : Option Value → am_H → Prop} : am_Wp d 165 134 [.ref 16, .int x1, .ref 18] [] (hp nS M) Q = Q (some (.int (M 18 5))) (hp nS M) := by
  refine (eq_run 2 (q := (138, [.ref 16, .int x1, .ref 18], [.int (M 18 5)], hp nS M)) (by with_unfolding_all rfl)).trans ?_
  exact eq_retI2 (e := (.ireturn, 1, 0, 0, 0)) (t := .int) (by with_unfolding_all rfl) rfl (by with_unfolding_all rfl) rfl
set_option maxRecDepth 20000 in
theorem b_165_139 {d nS : Nat} {x1 : Int32} {M : am_M} {Q : Option Value → am_H → Prop} : am_Wp d 165 139 [.ref 16, .int x1, .ref 18] [] (hp nS M) Q = Q (some (.int (M 31 0))) (hp nS M) := by
  refine (eq_run 4 (q := (149, [.ref 16, .int x1, .ref 18], [.int (M 31 0)], hp nS M)) (by with_unfolding_all rfl)).trans ?_
  exact eq_retI2 (e := (.ireturn, 1, 0, 0, 0)) (t := .int) (by with_unfolding_all rfl) rfl (by with_unfolding_all rfl) rfl
set_option maxRecDepth 20000 in
theorem b_165_150 {d nS : Nat} {x1 : Int32} {M : am_M} {Q : Option Value → am_H → Prop} : am_Wp d 165 150 [.ref 16, .int x1, .ref 18] [] (hp nS M) Q = Q (some (.int (M 39 1))) (hp nS M) := by
  refine (eq_run 4 (q := (160, [.ref 16, .int x1, .ref 18], [.int (M 39 1)], hp nS M)) (by with_unfolding_all rfl)).trans ?_
  exact eq_retI2 (e := (.ireturn, 1, 0, 0, 0)) (t := .int) (by with_unfolding_all rfl) rfl (by with_unfolding_all rfl) rfl
set_option maxRecDepth 20000 in
theorem b_165_161 {d nS : Nat} {x1 : Int32} {M : am_M} {Q : Option Value → am_H → Prop} : am_Wp d 165 161 [.ref 16, .int x1, .ref 18] [] (hp nS M) Q = Q (some (.int (M 41 1))) (hp nS M) := by
  refine (eq_run 4 (q := (171, [.ref 16, .int x1, .ref 18], [.int (M 41 1)], hp nS M)) (by with_unfolding_all rfl)).trans ?_
  exact eq_retI2 (e := (.ireturn, 1, 0, 0, 0)) (t := .int) (by with_unfolding_all rfl) rfl (by with_unfolding_all rfl) rfl
set_option maxRecDepth 20000 in
theorem b_165_172 {d nS : Nat} {x1 : Int32} {M : am_M} {Q : Option Value → am_H → Prop} : am_Wp d 165 172 [.ref 16, .int x1, .ref 18] [] (hp nS M) Q = Q (some (.int (M 43 1))) (hp nS M) := by
  refine (eq_run 4 (q := (182, [.ref 16, .int x1, .ref 18], [.int (M 43 1)], hp nS M)) (by with_unfolding_all rfl)).trans ?_
  exact eq_retI2 (e := (.ireturn, 1, 0, 0, 0)) (t := .int) (by with_unfolding_all rfl) rfl (by with_unfolding_all rfl) rfl
set_option maxRecDepth 20000 in
theorem b_165_183 {d nS : Nat} {x1 : Int32} {M : am_M} {Q : Option Value → am_H → Prop} : am_Wp d 165 183 [.ref 16, .int x1, .ref 18] [] (hp nS M) Q = Q (some (.int (M 113 2))) (hp nS M) := by
  refine (eq_run 3 (q := (190, [.ref 16, .int x1, .ref 18], [.int (M 113 2)], hp nS M)) (by with_unfolding_all rfl)).trans ?_
  exact eq_retI2 (e := (.ireturn, 1, 0, 0, 0)) (t := .int) (by with_unfolding_all rfl) rfl (by with_unfolding_all rfl) rfl
set_option maxRecDepth 20000 in
theorem b_165_191 {d nS : Nat} {x1 : Int32} {M : am_M} {Q : Option Value → am_H → Prop} : am_Wp d 165 191 [.ref 16, .int x1, .ref 18] [] (hp nS M) Q = Q (some (.int (-100000))) (hp nS M) := by
  refine (eq_run 1 (q := (194, [.ref 16, .int x1, .ref 18], [.int (-100000)], hp nS M)) (by with_unfolding_all rfl)).trans ?_
  exact eq_retI2 (e := (.ireturn, 1, 0, 0, 0)) (t := .int) (by with_unfolding_all rfl) rfl (by with_unfolding_all rfl) rfl
-- LarkExchange setOf([II)I (166, (28, None))
set_option maxRecDepth 20000 in
theorem b_166_0 {d nS : Nat} {x1 : Int32} {M : am_M} {Q : Option Value → am_H → Prop} : am_Wp d 166 0 [.ref 28, .int x1, .retAddr 0, .retAddr 0] [] (hp nS M) Q = am_Wp d 166 4 [.ref 28, .int x1, .int 0, .int 0] [] (hp nS M) Q := by
  exact eq_run 4 (q := (4, [.ref 28, .int x1, .int 0, .int 0], [], hp nS M)) (by with_unfolding_all rfl)
set_option maxRecDepth 20000 in
theorem b_166_4 {d nS : Nat} {x1 x2 x3 : Int32} {M : am_M} {Q : Option Value → am_H → Prop} : am_Wp d 166 4 [.ref 28, .int x1, .int x2, .int x3] [] (hp nS M) Q = if x1 ≤ x3 then am_Wp d 166 34 [.ref 28, .int x1, .int x2, .int x3] [] (hp nS M) Q else am_Wp d 166 9 [.ref 28, .int x1, .int x2, .int x3] [] (hp nS M) Q := by
  refine (eq_run 2 (q := (6, [.ref 28, .int x1, .int x2, .int x3], [.int x1, .int x3], hp nS M)) (by with_unfolding_all rfl)).trans ?_
  exact eq_cmp_ge (by with_unfolding_all rfl)
set_option maxRecDepth 20000 in
theorem b_166_9 {d nS : Nat} {x1 x2 x3 : Int32} {M : am_M} {Q : Option Value → am_H → Prop} : am_Wp d 166 9 [.ref 28, .int x1, .int x2, .int x3] [] (hp nS M) Q = if 10 ≤ x3 then am_Wp d 166 34 [.ref 28, .int x1, .int x2, .int x3] [] (hp nS M) Q else am_Wp d 166 15 [.ref 28, .int x1, .int x2, .int x3] [] (hp nS M) Q := by
  refine (eq_run 3 (q := (12, [.ref 28, .int x1, .int x2, .int x3], [.int 10, .int x3], hp nS M)) (by with_unfolding_all rfl)).trans ?_
  exact eq_cmp_ge (by with_unfolding_all rfl)
set_option maxRecDepth 20000 in
theorem b_166_15 {d nS : Nat} {x1 x2 x3 : Int32} {M : am_M} {Q : Option Value → am_H → Prop} (h1 : vp_in x3 10) : am_Wp d 166 15 [.ref 28, .int x1, .int x2, .int x3] [] (hp nS M) Q = if ¬ (M 28 x3.toNatClampNeg) = 1 then am_Wp d 166 28 [.ref 28, .int x1, .int x2, .int x3] [] (hp nS M) Q else am_Wp d 166 22 [.ref 28, .int x1, .int x2, .int x3] [] (hp nS M) Q := by
  refine (eq_run 2 (q := (17, [.ref 28, .int x1, .int x2, .int x3], [.int x3, .ref 28], hp nS M)) (by with_unfolding_all rfl)).trans ?_
  refine (eq_ald (e := (.iaload, 1, 0, 0, 0)) (by with_unfolding_all rfl) rfl (n := 10) (by with_unfolding_all rfl) h1).trans ?_
  refine (eq_run 1 (q := (19, [.ref 28, .int x1, .int x2, .int x3], [.int 1, .int (M 28 x3.toNatClampNeg)], hp nS M)) (by with_unfolding_all rfl)).trans ?_
  exact eq_cmp_ne (by with_unfolding_all rfl)
set_option maxRecDepth 20000 in
theorem b_166_22 {d nS : Nat} {x1 x2 x3 : Int32} {M : am_M} {Q : Option Value → am_H → Prop} : am_Wp d 166 22 [.ref 28, .int x1, .int x2, .int x3] [] (hp nS M) Q = am_Wp d 166 28 [.ref 28, .int x1, .int (x2 ||| (1 <<< (x3 &&& 31))), .int x3] [] (hp nS M) Q := by
  exact eq_run 6 (q := (28, [.ref 28, .int x1, .int (x2 ||| (1 <<< (x3 &&& 31))), .int x3], [], hp nS M)) (by with_unfolding_all rfl)
set_option maxRecDepth 20000 in
theorem b_166_28 {d nS : Nat} {x1 x2 x3 : Int32} {M : am_M} {Q : Option Value → am_H → Prop} : am_Wp d 166 28 [.ref 28, .int x1, .int x2, .int x3] [] (hp nS M) Q = am_Wp d 166 4 [.ref 28, .int x1, .int x2, .int (x3 + 1)] [] (hp nS M) Q := by
  exact eq_run 2 (q := (4, [.ref 28, .int x1, .int x2, .int (x3 + 1)], [], hp nS M)) (by with_unfolding_all rfl)
set_option maxRecDepth 20000 in
theorem b_166_34 {d nS : Nat} {x1 x2 x3 : Int32} {M : am_M} {Q : Option Value → am_H → Prop} : am_Wp d 166 34 [.ref 28, .int x1, .int x2, .int x3] [] (hp nS M) Q = Q (some (.int x2)) (hp nS M) := by
  refine (eq_run 1 (q := (35, [.ref 28, .int x1, .int x2, .int x3], [.int x2], hp nS M)) (by with_unfolding_all rfl)).trans ?_
  exact eq_retI2 (e := (.ireturn, 1, 0, 0, 0)) (t := .int) (by with_unfolding_all rfl) rfl (by with_unfolding_all rfl) rfl
-- LarkExchange setOf([II)I (166, (22, None))
set_option maxRecDepth 20000 in
theorem b_166i1_0 {d nS : Nat} {x1 : Int32} {M : am_M} {Q : Option Value → am_H → Prop} : am_Wp d 166 0 [.ref 22, .int x1, .retAddr 0, .retAddr 0] [] (hp nS M) Q = am_Wp d 166 4 [.ref 22, .int x1, .int 0, .int 0] [] (hp nS M) Q := by
  exact eq_run 4 (q := (4, [.ref 22, .int x1, .int 0, .int 0], [], hp nS M)) (by with_unfolding_all rfl)
set_option maxRecDepth 20000 in
theorem b_166i1_4 {d nS : Nat} {x1 x2 x3 : Int32} {M : am_M} {Q : Option Value → am_H → Prop} : am_Wp d 166 4 [.ref 22, .int x1, .int x2, .int x3] [] (hp nS M) Q = if x1 ≤ x3 then am_Wp d 166 34 [.ref 22, .int x1, .int x2, .int x3] [] (hp nS M) Q else am_Wp d 166 9 [.ref 22, .int x1, .int x2, .int x3] [] (hp nS M) Q := by
  refine (eq_run 2 (q := (6, [.ref 22, .int x1, .int x2, .int x3], [.int x1, .int x3], hp nS M)) (by with_unfolding_all rfl)).trans ?_
  exact eq_cmp_ge (by with_unfolding_all rfl)
set_option maxRecDepth 20000 in
theorem b_166i1_9 {d nS : Nat} {x1 x2 x3 : Int32} {M : am_M} {Q : Option Value → am_H → Prop} : am_Wp d 166 9 [.ref 22, .int x1, .int x2, .int x3] [] (hp nS M) Q = if 6 ≤ x3 then am_Wp d 166 34 [.ref 22, .int x1, .int x2, .int x3] [] (hp nS M) Q else am_Wp d 166 15 [.ref 22, .int x1, .int x2, .int x3] [] (hp nS M) Q := by
  refine (eq_run 3 (q := (12, [.ref 22, .int x1, .int x2, .int x3], [.int 6, .int x3], hp nS M)) (by with_unfolding_all rfl)).trans ?_
  exact eq_cmp_ge (by with_unfolding_all rfl)
set_option maxRecDepth 20000 in
theorem b_166i1_15 {d nS : Nat} {x1 x2 x3 : Int32} {M : am_M} {Q : Option Value → am_H → Prop} (h1 : vp_in x3 6) : am_Wp d 166 15 [.ref 22, .int x1, .int x2, .int x3] [] (hp nS M) Q = if ¬ (M 22 x3.toNatClampNeg) = 1 then am_Wp d 166 28 [.ref 22, .int x1, .int x2, .int x3] [] (hp nS M) Q else am_Wp d 166 22 [.ref 22, .int x1, .int x2, .int x3] [] (hp nS M) Q := by
  refine (eq_run 2 (q := (17, [.ref 22, .int x1, .int x2, .int x3], [.int x3, .ref 22], hp nS M)) (by with_unfolding_all rfl)).trans ?_
  refine (eq_ald (e := (.iaload, 1, 0, 0, 0)) (by with_unfolding_all rfl) rfl (n := 6) (by with_unfolding_all rfl) h1).trans ?_
  refine (eq_run 1 (q := (19, [.ref 22, .int x1, .int x2, .int x3], [.int 1, .int (M 22 x3.toNatClampNeg)], hp nS M)) (by with_unfolding_all rfl)).trans ?_
  exact eq_cmp_ne (by with_unfolding_all rfl)
set_option maxRecDepth 20000 in
theorem b_166i1_22 {d nS : Nat} {x1 x2 x3 : Int32} {M : am_M} {Q : Option Value → am_H → Prop} : am_Wp d 166 22 [.ref 22, .int x1, .int x2, .int x3] [] (hp nS M) Q = am_Wp d 166 28 [.ref 22, .int x1, .int (x2 ||| (1 <<< (x3 &&& 31))), .int x3] [] (hp nS M) Q := by
  exact eq_run 6 (q := (28, [.ref 22, .int x1, .int (x2 ||| (1 <<< (x3 &&& 31))), .int x3], [], hp nS M)) (by with_unfolding_all rfl)
set_option maxRecDepth 20000 in
theorem b_166i1_28 {d nS : Nat} {x1 x2 x3 : Int32} {M : am_M} {Q : Option Value → am_H → Prop} : am_Wp d 166 28 [.ref 22, .int x1, .int x2, .int x3] [] (hp nS M) Q = am_Wp d 166 4 [.ref 22, .int x1, .int x2, .int (x3 + 1)] [] (hp nS M) Q := by
  exact eq_run 2 (q := (4, [.ref 22, .int x1, .int x2, .int (x3 + 1)], [], hp nS M)) (by with_unfolding_all rfl)
set_option maxRecDepth 20000 in
theorem b_166i1_34 {d nS : Nat} {x1 x2 x3 : Int32} {M : am_M} {Q : Option Value → am_H → Prop} : am_Wp d 166 34 [.ref 22, .int x1, .int x2, .int x3] [] (hp nS M) Q = Q (some (.int x2)) (hp nS M) := by
  refine (eq_run 1 (q := (35, [.ref 22, .int x1, .int x2, .int x3], [.int x2], hp nS M)) (by with_unfolding_all rfl)).trans ?_
  exact eq_retI2 (e := (.ireturn, 1, 0, 0, 0)) (t := .int) (by with_unfolding_all rfl) rfl (by with_unfolding_all rfl) rfl
-- java/lang/Math min(II)I (296, (None, None))
set_option maxRecDepth 20000 in
theorem b_296_0 {d nS : Nat} {x0 x1 : Int32} {M : am_M} {Q : Option Value → am_H → Prop} : am_Wp d 296 0 [.int x0, .int x1] [] (hp nS M) Q = if x1 < x0 then am_Wp d 296 9 [.int x0, .int x1] [] (hp nS M) Q else am_Wp d 296 5 [.int x0, .int x1] [] (hp nS M) Q := by
  refine (eq_run 2 (q := (2, [.int x0, .int x1], [.int x1, .int x0], hp nS M)) (by with_unfolding_all rfl)).trans ?_
  exact eq_cmp_gt (by with_unfolding_all rfl)
set_option maxRecDepth 20000 in
theorem b_296_5 {d nS : Nat} {x0 x1 : Int32} {M : am_M} {Q : Option Value → am_H → Prop} : am_Wp d 296 5 [.int x0, .int x1] [] (hp nS M) Q = am_Wp d 296 10 [.int x0, .int x1] [.int x0] (hp nS M) Q := by
  exact eq_run 2 (q := (10, [.int x0, .int x1], [.int x0], hp nS M)) (by with_unfolding_all rfl)
set_option maxRecDepth 20000 in
theorem b_296_9 {d nS : Nat} {x0 x1 : Int32} {M : am_M} {Q : Option Value → am_H → Prop} : am_Wp d 296 9 [.int x0, .int x1] [] (hp nS M) Q = am_Wp d 296 10 [.int x0, .int x1] [.int x1] (hp nS M) Q := by
  exact eq_run 1 (q := (10, [.int x0, .int x1], [.int x1], hp nS M)) (by with_unfolding_all rfl)
set_option maxRecDepth 20000 in
theorem b_296_10 {d nS : Nat} {x0 x1 s0 : Int32} {M : am_M} {Q : Option Value → am_H → Prop} : am_Wp d 296 10 [.int x0, .int x1] [.int s0] (hp nS M) Q = Q (some (.int s0)) (hp nS M) := by
  exact eq_retI2 (e := (.ireturn, 1, 0, 0, 0)) (t := .int) (by with_unfolding_all rfl) rfl (by with_unfolding_all rfl) rfl
-- java/lang/Math max(II)I (297, (None, None))
set_option maxRecDepth 20000 in
theorem b_297_0 {d nS : Nat} {x0 x1 : Int32} {M : am_M} {Q : Option Value → am_H → Prop} : am_Wp d 297 0 [.int x0, .int x1] [] (hp nS M) Q = if x0 < x1 then am_Wp d 297 9 [.int x0, .int x1] [] (hp nS M) Q else am_Wp d 297 5 [.int x0, .int x1] [] (hp nS M) Q := by
  refine (eq_run 2 (q := (2, [.int x0, .int x1], [.int x1, .int x0], hp nS M)) (by with_unfolding_all rfl)).trans ?_
  exact eq_cmp_lt (by with_unfolding_all rfl)
set_option maxRecDepth 20000 in
theorem b_297_5 {d nS : Nat} {x0 x1 : Int32} {M : am_M} {Q : Option Value → am_H → Prop} : am_Wp d 297 5 [.int x0, .int x1] [] (hp nS M) Q = am_Wp d 297 10 [.int x0, .int x1] [.int x0] (hp nS M) Q := by
  exact eq_run 2 (q := (10, [.int x0, .int x1], [.int x0], hp nS M)) (by with_unfolding_all rfl)
set_option maxRecDepth 20000 in
theorem b_297_9 {d nS : Nat} {x0 x1 : Int32} {M : am_M} {Q : Option Value → am_H → Prop} : am_Wp d 297 9 [.int x0, .int x1] [] (hp nS M) Q = am_Wp d 297 10 [.int x0, .int x1] [.int x1] (hp nS M) Q := by
  exact eq_run 1 (q := (10, [.int x0, .int x1], [.int x1], hp nS M)) (by with_unfolding_all rfl)
set_option maxRecDepth 20000 in
theorem b_297_10 {d nS : Nat} {x0 x1 s0 : Int32} {M : am_M} {Q : Option Value → am_H → Prop} : am_Wp d 297 10 [.int x0, .int x1] [.int s0] (hp nS M) Q = Q (some (.int s0)) (hp nS M) := by
  exact eq_retI2 (e := (.ireturn, 1, 0, 0, 0)) (t := .int) (by with_unfolding_all rfl) rfl (by with_unfolding_all rfl) rfl
-- java/lang/Math abs(I)I (298, (None,))
set_option maxRecDepth 20000 in
theorem b_298_0 {d nS : Nat} {x0 : Int32} {M : am_M} {Q : Option Value → am_H → Prop} : am_Wp d 298 0 [.int x0] [] (hp nS M) Q = if 0 ≤ x0 then am_Wp d 298 9 [.int x0] [] (hp nS M) Q else am_Wp d 298 4 [.int x0] [] (hp nS M) Q := by
  refine (eq_run 1 (q := (1, [.int x0], [.int x0], hp nS M)) (by with_unfolding_all rfl)).trans ?_
  exact eq_if_ge (by with_unfolding_all rfl)
set_option maxRecDepth 20000 in
theorem b_298_4 {d nS : Nat} {x0 : Int32} {M : am_M} {Q : Option Value → am_H → Prop} : am_Wp d 298 4 [.int x0] [] (hp nS M) Q = am_Wp d 298 10 [.int x0] [.int (-x0)] (hp nS M) Q := by
  exact eq_run 3 (q := (10, [.int x0], [.int (-x0)], hp nS M)) (by with_unfolding_all rfl)
set_option maxRecDepth 20000 in
theorem b_298_9 {d nS : Nat} {x0 : Int32} {M : am_M} {Q : Option Value → am_H → Prop} : am_Wp d 298 9 [.int x0] [] (hp nS M) Q = am_Wp d 298 10 [.int x0] [.int x0] (hp nS M) Q := by
  exact eq_run 1 (q := (10, [.int x0], [.int x0], hp nS M)) (by with_unfolding_all rfl)
set_option maxRecDepth 20000 in
theorem b_298_10 {d nS : Nat} {x0 s0 : Int32} {M : am_M} {Q : Option Value → am_H → Prop} : am_Wp d 298 10 [.int x0] [.int s0] (hp nS M) Q = Q (some (.int s0)) (hp nS M) := by
  exact eq_retI2 (e := (.ireturn, 1, 0, 0, 0)) (t := .int) (by with_unfolding_all rfl) rfl (by with_unfolding_all rfl) rfl
-- java/util/Arrays fill([II)V (299, (25, None))
set_option maxRecDepth 20000 in
theorem b_299_0 {d nS : Nat} {x1 : Int32} {M : am_M} {Q : Option Value → am_H → Prop} : am_Wp d 299 0 [.ref 25, .int x1, .retAddr 0, .retAddr 0] [] (hp nS M) Q = am_Wp d 299 5 [.ref 25, .int x1, .int 0, .int 8] [] (hp nS M) Q := by
  exact eq_run 5 (q := (5, [.ref 25, .int x1, .int 0, .int 8], [], hp nS M)) (by with_unfolding_all rfl)
set_option maxRecDepth 20000 in
theorem b_299_5 {d nS : Nat} {x1 x2 x3 : Int32} {M : am_M} {Q : Option Value → am_H → Prop} : am_Wp d 299 5 [.ref 25, .int x1, .int x2, .int x3] [] (hp nS M) Q = if x3 ≤ x2 then am_Wp d 299 20 [.ref 25, .int x1, .int x2, .int x3] [] (hp nS M) Q else am_Wp d 299 10 [.ref 25, .int x1, .int x2, .int x3] [] (hp nS M) Q := by
  refine (eq_run 2 (q := (7, [.ref 25, .int x1, .int x2, .int x3], [.int x3, .int x2], hp nS M)) (by with_unfolding_all rfl)).trans ?_
  exact eq_cmp_ge (by with_unfolding_all rfl)
set_option maxRecDepth 20000 in
theorem b_299_10 {d nS : Nat} {x1 x2 x3 : Int32} {M : am_M} {Q : Option Value → am_H → Prop} (h1 : vp_in x2 8) : am_Wp d 299 10 [.ref 25, .int x1, .int x2, .int x3] [] (hp nS M) Q = am_Wp d 299 5 [.ref 25, .int x1, .int (x2 + 1), .int x3] [] (hp nS (am_up M 25 x2.toNatClampNeg x1)) Q := by
  refine (eq_run 3 (q := (13, [.ref 25, .int x1, .int x2, .int x3], [.int x1, .int x2, .ref 25], hp nS M)) (by with_unfolding_all rfl)).trans ?_
  refine (eq_ast (e := (.iastore, 1, 0, 0, 0)) (by with_unfolding_all rfl) rfl (n := 8) (by with_unfolding_all rfl) (by decide) h1).trans ?_
  exact eq_run 2 (q := (5, [.ref 25, .int x1, .int (x2 + 1), .int x3], [], hp nS (am_up M 25 x2.toNatClampNeg x1))) (by with_unfolding_all rfl)
set_option maxRecDepth 20000 in
theorem b_299_20 {d nS : Nat} {x1 x2 x3 : Int32} {M : am_M} {Q : Option Value → am_H → Prop} : am_Wp d 299 20 [.ref 25, .int x1, .int x2, .int x3] [] (hp nS M) Q = Q none (hp nS M) := by
  exact eq_retV2 (e := (.return_, 1, 0, 0, 0)) (by with_unfolding_all rfl) rfl (by with_unfolding_all rfl)
-- java/util/Arrays fill([II)V (299, (203, None))
set_option maxRecDepth 20000 in
theorem b_299i1_0 {d nS : Nat} {x1 : Int32} {M : am_M} {Q : Option Value → am_H → Prop} : am_Wp d 299 0 [.ref 203, .int x1, .retAddr 0, .retAddr 0] [] (hp nS M) Q = am_Wp d 299 5 [.ref 203, .int x1, .int 0, .int 61] [] (hp nS M) Q := by
  exact eq_run 5 (q := (5, [.ref 203, .int x1, .int 0, .int 61], [], hp nS M)) (by with_unfolding_all rfl)
set_option maxRecDepth 20000 in
theorem b_299i1_5 {d nS : Nat} {x1 x2 x3 : Int32} {M : am_M} {Q : Option Value → am_H → Prop} : am_Wp d 299 5 [.ref 203, .int x1, .int x2, .int x3] [] (hp nS M) Q = if x3 ≤ x2 then am_Wp d 299 20 [.ref 203, .int x1, .int x2, .int x3] [] (hp nS M) Q else am_Wp d 299 10 [.ref 203, .int x1, .int x2, .int x3] [] (hp nS M) Q := by
  refine (eq_run 2 (q := (7, [.ref 203, .int x1, .int x2, .int x3], [.int x3, .int x2], hp nS M)) (by with_unfolding_all rfl)).trans ?_
  exact eq_cmp_ge (by with_unfolding_all rfl)
set_option maxRecDepth 20000 in
theorem b_299i1_10 {d nS : Nat} {x1 x2 x3 : Int32} {M : am_M} {Q : Option Value → am_H → Prop} (h1 : vp_in x2 61) : am_Wp d 299 10 [.ref 203, .int x1, .int x2, .int x3] [] (hp nS M) Q = am_Wp d 299 5 [.ref 203, .int x1, .int (x2 + 1), .int x3] [] (hp nS (am_up M 203 x2.toNatClampNeg x1)) Q := by
  refine (eq_run 3 (q := (13, [.ref 203, .int x1, .int x2, .int x3], [.int x1, .int x2, .ref 203], hp nS M)) (by with_unfolding_all rfl)).trans ?_
  refine (eq_ast (e := (.iastore, 1, 0, 0, 0)) (by with_unfolding_all rfl) rfl (n := 61) (by with_unfolding_all rfl) (by decide) h1).trans ?_
  exact eq_run 2 (q := (5, [.ref 203, .int x1, .int (x2 + 1), .int x3], [], hp nS (am_up M 203 x2.toNatClampNeg x1))) (by with_unfolding_all rfl)
set_option maxRecDepth 20000 in
theorem b_299i1_20 {d nS : Nat} {x1 x2 x3 : Int32} {M : am_M} {Q : Option Value → am_H → Prop} : am_Wp d 299 20 [.ref 203, .int x1, .int x2, .int x3] [] (hp nS M) Q = Q none (hp nS M) := by
  exact eq_retV2 (e := (.return_, 1, 0, 0, 0)) (by with_unfolding_all rfl) rfl (by with_unfolding_all rfl)
-- java/util/Arrays fill([II)V (299, (48, None))
set_option maxRecDepth 20000 in
theorem b_299i2_0 {d nS : Nat} {x1 : Int32} {M : am_M} {Q : Option Value → am_H → Prop} : am_Wp d 299 0 [.ref 48, .int x1, .retAddr 0, .retAddr 0] [] (hp nS M) Q = am_Wp d 299 5 [.ref 48, .int x1, .int 0, .int 6] [] (hp nS M) Q := by
  exact eq_run 5 (q := (5, [.ref 48, .int x1, .int 0, .int 6], [], hp nS M)) (by with_unfolding_all rfl)
set_option maxRecDepth 20000 in
theorem b_299i2_5 {d nS : Nat} {x1 x2 x3 : Int32} {M : am_M} {Q : Option Value → am_H → Prop} : am_Wp d 299 5 [.ref 48, .int x1, .int x2, .int x3] [] (hp nS M) Q = if x3 ≤ x2 then am_Wp d 299 20 [.ref 48, .int x1, .int x2, .int x3] [] (hp nS M) Q else am_Wp d 299 10 [.ref 48, .int x1, .int x2, .int x3] [] (hp nS M) Q := by
  refine (eq_run 2 (q := (7, [.ref 48, .int x1, .int x2, .int x3], [.int x3, .int x2], hp nS M)) (by with_unfolding_all rfl)).trans ?_
  exact eq_cmp_ge (by with_unfolding_all rfl)
set_option maxRecDepth 20000 in
theorem b_299i2_10 {d nS : Nat} {x1 x2 x3 : Int32} {M : am_M} {Q : Option Value → am_H → Prop} (h1 : vp_in x2 6) : am_Wp d 299 10 [.ref 48, .int x1, .int x2, .int x3] [] (hp nS M) Q = am_Wp d 299 5 [.ref 48, .int x1, .int (x2 + 1), .int x3] [] (hp nS (am_up M 48 x2.toNatClampNeg x1)) Q := by
  refine (eq_run 3 (q := (13, [.ref 48, .int x1, .int x2, .int x3], [.int x1, .int x2, .ref 48], hp nS M)) (by with_unfolding_all rfl)).trans ?_
  refine (eq_ast (e := (.iastore, 1, 0, 0, 0)) (by with_unfolding_all rfl) rfl (n := 6) (by with_unfolding_all rfl) (by decide) h1).trans ?_
  exact eq_run 2 (q := (5, [.ref 48, .int x1, .int (x2 + 1), .int x3], [], hp nS (am_up M 48 x2.toNatClampNeg x1))) (by with_unfolding_all rfl)
set_option maxRecDepth 20000 in
theorem b_299i2_20 {d nS : Nat} {x1 x2 x3 : Int32} {M : am_M} {Q : Option Value → am_H → Prop} : am_Wp d 299 20 [.ref 48, .int x1, .int x2, .int x3] [] (hp nS M) Q = Q none (hp nS M) := by
  exact eq_retV2 (e := (.return_, 1, 0, 0, 0)) (by with_unfolding_all rfl) rfl (by with_unfolding_all rfl)
-- java/util/Arrays fill([II)V (299, (49, None))
set_option maxRecDepth 20000 in
theorem b_299i3_0 {d nS : Nat} {x1 : Int32} {M : am_M} {Q : Option Value → am_H → Prop} : am_Wp d 299 0 [.ref 49, .int x1, .retAddr 0, .retAddr 0] [] (hp nS M) Q = am_Wp d 299 5 [.ref 49, .int x1, .int 0, .int 6] [] (hp nS M) Q := by
  exact eq_run 5 (q := (5, [.ref 49, .int x1, .int 0, .int 6], [], hp nS M)) (by with_unfolding_all rfl)
set_option maxRecDepth 20000 in
theorem b_299i3_5 {d nS : Nat} {x1 x2 x3 : Int32} {M : am_M} {Q : Option Value → am_H → Prop} : am_Wp d 299 5 [.ref 49, .int x1, .int x2, .int x3] [] (hp nS M) Q = if x3 ≤ x2 then am_Wp d 299 20 [.ref 49, .int x1, .int x2, .int x3] [] (hp nS M) Q else am_Wp d 299 10 [.ref 49, .int x1, .int x2, .int x3] [] (hp nS M) Q := by
  refine (eq_run 2 (q := (7, [.ref 49, .int x1, .int x2, .int x3], [.int x3, .int x2], hp nS M)) (by with_unfolding_all rfl)).trans ?_
  exact eq_cmp_ge (by with_unfolding_all rfl)
set_option maxRecDepth 20000 in
theorem b_299i3_10 {d nS : Nat} {x1 x2 x3 : Int32} {M : am_M} {Q : Option Value → am_H → Prop} (h1 : vp_in x2 6) : am_Wp d 299 10 [.ref 49, .int x1, .int x2, .int x3] [] (hp nS M) Q = am_Wp d 299 5 [.ref 49, .int x1, .int (x2 + 1), .int x3] [] (hp nS (am_up M 49 x2.toNatClampNeg x1)) Q := by
  refine (eq_run 3 (q := (13, [.ref 49, .int x1, .int x2, .int x3], [.int x1, .int x2, .ref 49], hp nS M)) (by with_unfolding_all rfl)).trans ?_
  refine (eq_ast (e := (.iastore, 1, 0, 0, 0)) (by with_unfolding_all rfl) rfl (n := 6) (by with_unfolding_all rfl) (by decide) h1).trans ?_
  exact eq_run 2 (q := (5, [.ref 49, .int x1, .int (x2 + 1), .int x3], [], hp nS (am_up M 49 x2.toNatClampNeg x1))) (by with_unfolding_all rfl)
set_option maxRecDepth 20000 in
theorem b_299i3_20 {d nS : Nat} {x1 x2 x3 : Int32} {M : am_M} {Q : Option Value → am_H → Prop} : am_Wp d 299 20 [.ref 49, .int x1, .int x2, .int x3] [] (hp nS M) Q = Q none (hp nS M) := by
  exact eq_retV2 (e := (.return_, 1, 0, 0, 0)) (by with_unfolding_all rfl) rfl (by with_unfolding_all rfl)
-- java/lang/String indexOf(I)I (300, (4, None))
set_option maxRecDepth 20000 in
theorem b_300_0 {d nS : Nat} {x1 : Int32} {M : am_M} {Q : Option Value → am_H → Prop} : am_Wp (d + 1) 300 0 [.ref 4, .int x1] [] (hp nS M) Q = am_Wp d 301 0 [.ref 4, .int x1, .int 0] [] (hp nS M) (fun v h1 => am_Wp (d + 1) 300 6 [.ref 4, .int x1] (am_ans v []) h1 Q) := by
  refine (eq_run 3 (q := (3, [.ref 4, .int x1], [.int 0, .int x1, .ref 4], hp nS M)) (by with_unfolding_all rfl)).trans ?_
  exact eq_call2 (e := (.invokevirtual 633, 3, 0, 301, 368)) (as := [.ref 4, .int x1, .int 0]) (r := []) (n := 3) (m := 3) (by with_unfolding_all rfl) rfl (by decide) (by with_unfolding_all rfl) (by decide) (by with_unfolding_all rfl) ⟨fun _ => am_rec_ok (c := 15) (by with_unfolding_all rfl) (by decide +kernel), fun z => by simp at z⟩
set_option maxRecDepth 20000 in
theorem b_300_6 {d nS : Nat} {x1 s0 : Int32} {M : am_M} {Q : Option Value → am_H → Prop} : am_Wp d 300 6 [.ref 4, .int x1] [.int s0] (hp nS M) Q = Q (some (.int s0)) (hp nS M) := by
  exact eq_retI2 (e := (.ireturn, 1, 0, 0, 0)) (t := .int) (by with_unfolding_all rfl) rfl (by with_unfolding_all rfl) rfl
-- java/lang/String indexOf(II)I (301, (4, None, None))
set_option maxRecDepth 20000 in
theorem b_301_0 {d nS : Nat} {x1 x2 : Int32} {M : am_M} {Q : Option Value → am_H → Prop} : am_Wp (d + 1) 301 0 [.ref 4, .int x1, .int x2] [] (hp nS M) Q = am_Wp d 302 0 [.ref 4] [] (hp nS M) (fun v h1 => am_Wp (d + 1) 301 4 [.ref 4, .int x1, .int x2] (am_ans v []) h1 Q) := by
  refine (eq_run 1 (q := (1, [.ref 4, .int x1, .int x2], [.ref 4], hp nS M)) (by with_unfolding_all rfl)).trans ?_
  exact eq_call2 (e := (.invokevirtual 492, 3, 0, 302, 365)) (as := [.ref 4]) (r := []) (n := 1) (m := 1) (by with_unfolding_all rfl) rfl (by decide) (by with_unfolding_all rfl) (by decide) (by with_unfolding_all rfl) ⟨fun _ => am_rec_ok (c := 15) (by with_unfolding_all rfl) (by decide +kernel), fun z => by simp at z⟩
set_option maxRecDepth 20000 in
theorem b_301_4 {d nS : Nat} {x1 x2 s0 : Int32} {M : am_M} {Q : Option Value → am_H → Prop} : am_Wp d 301 4 [.ref 4, .int x1, .int x2] [.int s0] (hp nS M) Q = if s0 = 0 then am_Wp d 301 23 [.ref 4, .int x1, .int x2] [] (hp nS M) Q else am_Wp d 301 7 [.ref 4, .int x1, .int x2] [] (hp nS M) Q := by
  exact eq_if_eq (by with_unfolding_all rfl)
set_option maxRecDepth 20000 in
theorem b_301_7 {d nS : Nat} {x1 x2 : Int32} {M : am_M} {Q : Option Value → am_H → Prop} : am_Wp (d + 1) 301 7 [.ref 4, .int x1, .int x2] [] (hp nS M) Q = am_Wp d 303 0 [.ref 4] [] (hp nS M) (fun v h1 => am_Wp (d + 1) 301 17 [.ref 4, .int x1, .int x2] (am_ans v [.int x2, .int x1, .ref 5]) h1 Q) := by
  refine (eq_run 5 (q := (14, [.ref 4, .int x1, .int x2], [.ref 4, .int x2, .int x1, .ref 5], hp nS M)) (by with_unfolding_all rfl)).trans ?_
  exact eq_call2 (e := (.invokevirtual 505, 3, 0, 303, 367)) (as := [.ref 4]) (r := [.int x2, .int x1, .ref 5]) (n := 1) (m := 1) (by with_unfolding_all rfl) rfl (by decide) (by with_unfolding_all rfl) (by decide) (by with_unfolding_all rfl) ⟨fun _ => am_rec_ok (c := 15) (by with_unfolding_all rfl) (by decide +kernel), fun z => by simp at z⟩
set_option maxRecDepth 20000 in
theorem b_301_17 {d nS : Nat} {x1 x2 s1 s2 s3 : Int32} {M : am_M} {Q : Option Value → am_H → Prop} : am_Wp (d + 1) 301 17 [.ref 4, .int x1, .int x2] [.int s3, .int s2, .int s1, .ref 5] (hp nS M) Q = am_Wp d 305 0 [.ref 5, .int s1, .int s2, .int s3] [] (hp nS M) (fun v h1 => am_Wp (d + 1) 301 20 [.ref 4, .int x1, .int x2] (am_ans v []) h1 Q) := by
  exact eq_call2 (e := (.invokestatic 637, 3, 1, 305, 369)) (as := [.ref 5, .int s1, .int s2, .int s3]) (r := []) (n := 4) (m := 4) (by with_unfolding_all rfl) rfl (by decide) (by with_unfolding_all rfl) (by decide) (by with_unfolding_all rfl) ⟨fun z => absurd z (by decide), fun z => by simp at z⟩
set_option maxRecDepth 20000 in
theorem b_301_20 {d nS : Nat} {x1 x2 s0 : Int32} {M : am_M} {Q : Option Value → am_H → Prop} : am_Wp d 301 20 [.ref 4, .int x1, .int x2] [.int s0] (hp nS M) Q = am_Wp d 301 36 [.ref 4, .int x1, .int x2] [.int s0] (hp nS M) Q := by
  exact eq_run 1 (q := (36, [.ref 4, .int x1, .int x2], [.int s0], hp nS M)) (by with_unfolding_all rfl)
set_option maxRecDepth 20000 in
theorem b_301_23 {d nS : Nat} {x1 x2 : Int32} {M : am_M} {Q : Option Value → am_H → Prop} : am_Wp (d + 1) 301 23 [.ref 4, .int x1, .int x2] [] (hp nS M) Q = am_Wp d 303 0 [.ref 4] [] (hp nS M) (fun v h1 => am_Wp (d + 1) 301 33 [.ref 4, .int x1, .int x2] (am_ans v [.int x2, .int x1, .ref 5]) h1 Q) := by
  refine (eq_run 5 (q := (30, [.ref 4, .int x1, .int x2], [.ref 4, .int x2, .int x1, .ref 5], hp nS M)) (by with_unfolding_all rfl)).trans ?_
  exact eq_call2 (e := (.invokevirtual 505, 3, 0, 303, 367)) (as := [.ref 4]) (r := [.int x2, .int x1, .ref 5]) (n := 1) (m := 1) (by with_unfolding_all rfl) rfl (by decide) (by with_unfolding_all rfl) (by decide) (by with_unfolding_all rfl) ⟨fun _ => am_rec_ok (c := 15) (by with_unfolding_all rfl) (by decide +kernel), fun z => by simp at z⟩
-- b_301_33: invokestatic
set_option maxRecDepth 20000 in
theorem b_301_36 {d nS : Nat} {x1 x2 s0 : Int32} {M : am_M} {Q : Option Value → am_H → Prop} : am_Wp d 301 36 [.ref 4, .int x1, .int x2] [.int s0] (hp nS M) Q = Q (some (.int s0)) (hp nS M) := by
  exact eq_retI2 (e := (.ireturn, 1, 0, 0, 0)) (t := .int) (by with_unfolding_all rfl) rfl (by with_unfolding_all rfl) rfl
-- java/lang/String isLatin1()Z (302, (4,))
set_option maxRecDepth 20000 in
theorem b_302_0 {d nS : Nat} {M : am_M} {Q : Option Value → am_H → Prop} : am_Wp d 302 0 [.ref 4] [] (hp nS M) Q = if (1 : Int32) = 0 then am_Wp d 302 17 [.ref 4] [] (hp nS M) Q else am_Wp d 302 6 [.ref 4] [] (hp nS M) Q := by
  refine (eq_run 1 (q := (3, [.ref 4], [.int 1], hp nS M)) (by with_unfolding_all rfl)).trans ?_
  exact eq_if_eq (by with_unfolding_all rfl)
set_option maxRecDepth 20000 in
theorem b_302_6 {d nS : Nat} {M : am_M} {Q : Option Value → am_H → Prop} : am_Wp d 302 6 [.ref 4] [] (hp nS M) Q = if ¬ (M 4 0) = 0 then am_Wp d 302 17 [.ref 4] [] (hp nS M) Q else am_Wp d 302 13 [.ref 4] [] (hp nS M) Q := by
  refine (eq_run 2 (q := (10, [.ref 4], [.int (M 4 0)], hp nS M)) (by with_unfolding_all rfl)).trans ?_
  exact eq_if_ne (by with_unfolding_all rfl)
set_option maxRecDepth 20000 in
theorem b_302_13 {d nS : Nat} {M : am_M} {Q : Option Value → am_H → Prop} : am_Wp d 302 13 [.ref 4] [] (hp nS M) Q = am_Wp d 302 18 [.ref 4] [.int 1] (hp nS M) Q := by
  exact eq_run 2 (q := (18, [.ref 4], [.int 1], hp nS M)) (by with_unfolding_all rfl)
set_option maxRecDepth 20000 in
theorem b_302_17 {d nS : Nat} {M : am_M} {Q : Option Value → am_H → Prop} : am_Wp d 302 17 [.ref 4] [] (hp nS M) Q = am_Wp d 302 18 [.ref 4] [.int 0] (hp nS M) Q := by
  exact eq_run 1 (q := (18, [.ref 4], [.int 0], hp nS M)) (by with_unfolding_all rfl)
set_option maxRecDepth 20000 in
theorem b_302_18 {d nS : Nat} {s0 : Int32} {M : am_M} {Q : Option Value → am_H → Prop} (h1 : am_rok .boolean s0 = true) : am_Wp d 302 18 [.ref 4] [.int s0] (hp nS M) Q = Q (some (.int s0)) (hp nS M) := by
  exact eq_retI2 (e := (.ireturn, 1, 0, 0, 0)) (t := .boolean) (by with_unfolding_all rfl) rfl (by with_unfolding_all rfl) h1
-- java/lang/String isLatin1()Z (302, (6,))
set_option maxRecDepth 20000 in
theorem b_302i1_0 {d nS : Nat} {M : am_M} {Q : Option Value → am_H → Prop} : am_Wp d 302 0 [.ref 6] [] (hp nS M) Q = if (1 : Int32) = 0 then am_Wp d 302 17 [.ref 6] [] (hp nS M) Q else am_Wp d 302 6 [.ref 6] [] (hp nS M) Q := by
  refine (eq_run 1 (q := (3, [.ref 6], [.int 1], hp nS M)) (by with_unfolding_all rfl)).trans ?_
  exact eq_if_eq (by with_unfolding_all rfl)
set_option maxRecDepth 20000 in
theorem b_302i1_6 {d nS : Nat} {M : am_M} {Q : Option Value → am_H → Prop} : am_Wp d 302 6 [.ref 6] [] (hp nS M) Q = if ¬ (M 6 0) = 0 then am_Wp d 302 17 [.ref 6] [] (hp nS M) Q else am_Wp d 302 13 [.ref 6] [] (hp nS M) Q := by
  refine (eq_run 2 (q := (10, [.ref 6], [.int (M 6 0)], hp nS M)) (by with_unfolding_all rfl)).trans ?_
  exact eq_if_ne (by with_unfolding_all rfl)
set_option maxRecDepth 20000 in
theorem b_302i1_13 {d nS : Nat} {M : am_M} {Q : Option Value → am_H → Prop} : am_Wp d 302 13 [.ref 6] [] (hp nS M) Q = am_Wp d 302 18 [.ref 6] [.int 1] (hp nS M) Q := by
  exact eq_run 2 (q := (18, [.ref 6], [.int 1], hp nS M)) (by with_unfolding_all rfl)
set_option maxRecDepth 20000 in
theorem b_302i1_17 {d nS : Nat} {M : am_M} {Q : Option Value → am_H → Prop} : am_Wp d 302 17 [.ref 6] [] (hp nS M) Q = am_Wp d 302 18 [.ref 6] [.int 0] (hp nS M) Q := by
  exact eq_run 1 (q := (18, [.ref 6], [.int 0], hp nS M)) (by with_unfolding_all rfl)
set_option maxRecDepth 20000 in
theorem b_302i1_18 {d nS : Nat} {s0 : Int32} {M : am_M} {Q : Option Value → am_H → Prop} (h1 : am_rok .boolean s0 = true) : am_Wp d 302 18 [.ref 6] [.int s0] (hp nS M) Q = Q (some (.int s0)) (hp nS M) := by
  exact eq_retI2 (e := (.ireturn, 1, 0, 0, 0)) (t := .boolean) (by with_unfolding_all rfl) rfl (by with_unfolding_all rfl) h1
-- java/lang/String length()I (303, (4,))
set_option maxRecDepth 20000 in
theorem b_303_0 {d nS : Nat} {M : am_M} {Q : Option Value → am_H → Prop} : am_Wp (d + 1) 303 0 [.ref 4] [] (hp nS M) Q = am_Wp d 304 0 [.ref 4] [] (hp nS M) (fun v h1 => am_Wp (d + 1) 303 9 [.ref 4] (am_ans v [.int 10]) h1 Q) := by
  refine (eq_run 4 (q := (6, [.ref 4], [.ref 4, .int 10], hp nS M)) (by with_unfolding_all rfl)).trans ?_
  exact eq_call2 (e := (.invokevirtual 335, 3, 0, 304, 364)) (as := [.ref 4]) (r := [.int 10]) (n := 1) (m := 1) (by with_unfolding_all rfl) rfl (by decide) (by with_unfolding_all rfl) (by decide) (by with_unfolding_all rfl) ⟨fun _ => am_rec_ok (c := 15) (by with_unfolding_all rfl) (by decide +kernel), fun z => by simp at z⟩
set_option maxRecDepth 20000 in
theorem b_303_9 {d nS : Nat} {s0 s1 : Int32} {M : am_M} {Q : Option Value → am_H → Prop} : am_Wp d 303 9 [.ref 4] [.int s1, .int s0] (hp nS M) Q = Q (some (.int (s0 >>> (s1 &&& 31)))) (hp nS M) := by
  refine (eq_run 1 (q := (10, [.ref 4], [.int (s0 >>> (s1 &&& 31))], hp nS M)) (by with_unfolding_all rfl)).trans ?_
  exact eq_retI2 (e := (.ireturn, 1, 0, 0, 0)) (t := .int) (by with_unfolding_all rfl) rfl (by with_unfolding_all rfl) rfl
-- java/lang/String coder()B (304, (4,))
set_option maxRecDepth 20000 in
theorem b_304_0 {d nS : Nat} {M : am_M} {Q : Option Value → am_H → Prop} : am_Wp d 304 0 [.ref 4] [] (hp nS M) Q = if (1 : Int32) = 0 then am_Wp d 304 13 [.ref 4] [] (hp nS M) Q else am_Wp d 304 6 [.ref 4] [] (hp nS M) Q := by
  refine (eq_run 1 (q := (3, [.ref 4], [.int 1], hp nS M)) (by with_unfolding_all rfl)).trans ?_
  exact eq_if_eq (by with_unfolding_all rfl)
set_option maxRecDepth 20000 in
theorem b_304_6 {d nS : Nat} {M : am_M} {Q : Option Value → am_H → Prop} : am_Wp d 304 6 [.ref 4] [] (hp nS M) Q = am_Wp d 304 14 [.ref 4] [.int (M 4 0)] (hp nS M) Q := by
  exact eq_run 3 (q := (14, [.ref 4], [.int (M 4 0)], hp nS M)) (by with_unfolding_all rfl)
set_option maxRecDepth 20000 in
theorem b_304_13 {d nS : Nat} {M : am_M} {Q : Option Value → am_H → Prop} : am_Wp d 304 13 [.ref 4] [] (hp nS M) Q = am_Wp d 304 14 [.ref 4] [.int 1] (hp nS M) Q := by
  exact eq_run 1 (q := (14, [.ref 4], [.int 1], hp nS M)) (by with_unfolding_all rfl)
set_option maxRecDepth 20000 in
theorem b_304_14 {d nS : Nat} {s0 : Int32} {M : am_M} {Q : Option Value → am_H → Prop} (h1 : am_rok .byte s0 = true) : am_Wp d 304 14 [.ref 4] [.int s0] (hp nS M) Q = Q (some (.int s0)) (hp nS M) := by
  exact eq_retI2 (e := (.ireturn, 1, 0, 0, 0)) (t := .byte) (by with_unfolding_all rfl) rfl (by with_unfolding_all rfl) h1
-- java/lang/StringLatin1 indexOf([BIII)I (305, (5, None, None, None))
set_option maxRecDepth 20000 in
theorem b_305_0 {d nS : Nat} {x1 x2 x3 : Int32} {M : am_M} {Q : Option Value → am_H → Prop} : am_Wp (d + 1) 305 0 [.ref 5, .int x1, .int x2, .int x3] [] (hp nS M) Q = am_Wp d 306 0 [.int x1] [] (hp nS M) (fun v h1 => am_Wp (d + 1) 305 4 [.ref 5, .int x1, .int x2, .int x3] (am_ans v []) h1 Q) := by
  refine (eq_run 1 (q := (1, [.ref 5, .int x1, .int x2, .int x3], [.int x1], hp nS M)) (by with_unfolding_all rfl)).trans ?_
  exact eq_call2 (e := (.invokestatic 88, 3, 1, 306, 373)) (as := [.int x1]) (r := []) (n := 1) (m := 1) (by with_unfolding_all rfl) rfl (by decide) (by with_unfolding_all rfl) (by decide) (by with_unfolding_all rfl) ⟨fun z => absurd z (by decide), fun z => by simp at z⟩
set_option maxRecDepth 20000 in
theorem b_305_4 {d nS : Nat} {x1 x2 x3 s0 : Int32} {M : am_M} {Q : Option Value → am_H → Prop} : am_Wp d 305 4 [.ref 5, .int x1, .int x2, .int x3] [.int s0] (hp nS M) Q = if ¬ s0 = 0 then am_Wp d 305 9 [.ref 5, .int x1, .int x2, .int x3] [] (hp nS M) Q else am_Wp d 305 7 [.ref 5, .int x1, .int x2, .int x3] [] (hp nS M) Q := by
  exact eq_if_ne (by with_unfolding_all rfl)
set_option maxRecDepth 20000 in
theorem b_305_7 {d nS : Nat} {x1 x2 x3 : Int32} {M : am_M} {Q : Option Value → am_H → Prop} : am_Wp d 305 7 [.ref 5, .int x1, .int x2, .int x3] [] (hp nS M) Q = Q (some (.int (-1))) (hp nS M) := by
  refine (eq_run 1 (q := (8, [.ref 5, .int x1, .int x2, .int x3], [.int (-1)], hp nS M)) (by with_unfolding_all rfl)).trans ?_
  exact eq_retI2 (e := (.ireturn, 1, 0, 0, 0)) (t := .int) (by with_unfolding_all rfl) rfl (by with_unfolding_all rfl) rfl
set_option maxRecDepth 20000 in
theorem b_305_9 {d nS : Nat} {x1 x2 x3 : Int32} {M : am_M} {Q : Option Value → am_H → Prop} : am_Wp (d + 1) 305 9 [.ref 5, .int x1, .int x2, .int x3] [] (hp nS M) Q = am_Wp d 297 0 [.int x2, .int 0] [] (hp nS M) (fun v h1 => am_Wp (d + 1) 305 14 [.ref 5, .int x1, .int x2, .int x3] (am_ans v []) h1 Q) := by
  refine (eq_run 2 (q := (11, [.ref 5, .int x1, .int x2, .int x3], [.int 0, .int x2], hp nS M)) (by with_unfolding_all rfl)).trans ?_
  exact eq_call2 (e := (.invokestatic 92, 3, 1, 297, 374)) (as := [.int x2, .int 0]) (r := []) (n := 2) (m := 2) (by with_unfolding_all rfl) rfl (by decide) (by with_unfolding_all rfl) (by decide) (by with_unfolding_all rfl) ⟨fun z => absurd z (by decide), fun z => by simp at z⟩
set_option maxRecDepth 20000 in
theorem b_305_14 {d nS : Nat} {x1 x2 x3 s0 : Int32} {M : am_M} {Q : Option Value → am_H → Prop} : am_Wp (d + 1) 305 14 [.ref 5, .int x1, .int x2, .int x3] [.int s0] (hp nS M) Q = am_Wp d 296 0 [.int x3, .int 10] [] (hp nS M) (fun v h1 => am_Wp (d + 1) 305 21 [.ref 5, .int x1, .int s0, .int x3] (am_ans v []) h1 Q) := by
  refine (eq_run 4 (q := (18, [.ref 5, .int x1, .int s0, .int x3], [.int 10, .int x3], hp nS M)) (by with_unfolding_all rfl)).trans ?_
  exact eq_call2 (e := (.invokestatic 38, 3, 1, 296, 372)) (as := [.int x3, .int 10]) (r := []) (n := 2) (m := 2) (by with_unfolding_all rfl) rfl (by decide) (by with_unfolding_all rfl) (by decide) (by with_unfolding_all rfl) ⟨fun z => absurd z (by decide), fun z => by simp at z⟩
set_option maxRecDepth 20000 in
theorem b_305_21 {d nS : Nat} {x1 x2 x3 s0 : Int32} {M : am_M} {Q : Option Value → am_H → Prop} : am_Wp d 305 21 [.ref 5, .int x1, .int x2, .int x3] [.int s0] (hp nS M) Q = if x2 < s0 then am_Wp d 305 29 [.ref 5, .int x1, .int x2, .int s0] [] (hp nS M) Q else am_Wp d 305 27 [.ref 5, .int x1, .int x2, .int s0] [] (hp nS M) Q := by
  refine (eq_run 3 (q := (24, [.ref 5, .int x1, .int x2, .int s0], [.int s0, .int x2], hp nS M)) (by with_unfolding_all rfl)).trans ?_
  exact eq_cmp_lt (by with_unfolding_all rfl)
set_option maxRecDepth 20000 in
theorem b_305_27 {d nS : Nat} {x1 x2 x3 : Int32} {M : am_M} {Q : Option Value → am_H → Prop} : am_Wp d 305 27 [.ref 5, .int x1, .int x2, .int x3] [] (hp nS M) Q = Q (some (.int (-1))) (hp nS M) := by
  refine (eq_run 1 (q := (28, [.ref 5, .int x1, .int x2, .int x3], [.int (-1)], hp nS M)) (by with_unfolding_all rfl)).trans ?_
  exact eq_retI2 (e := (.ireturn, 1, 0, 0, 0)) (t := .int) (by with_unfolding_all rfl) rfl (by with_unfolding_all rfl) rfl
set_option maxRecDepth 20000 in
theorem b_305_29 {d nS : Nat} {x1 x2 x3 : Int32} {M : am_M} {Q : Option Value → am_H → Prop} : am_Wp (d + 1) 305 29 [.ref 5, .int x1, .int x2, .int x3] [] (hp nS M) Q = am_Wp d 307 0 [.ref 5, .int x1, .int x2, .int x3, .retAddr 0, .retAddr 0] [] (hp nS M) (fun v h1 => am_Wp (d + 1) 305 36 [.ref 5, .int x1, .int x2, .int x3] (am_ans v []) h1 Q) := by
  refine (eq_run 4 (q := (33, [.ref 5, .int x1, .int x2, .int x3], [.int x3, .int x2, .int x1, .ref 5], hp nS M)) (by with_unfolding_all rfl)).trans ?_
  exact eq_call2 (e := (.invokestatic 95, 3, 1, 307, 375)) (as := [.ref 5, .int x1, .int x2, .int x3]) (r := []) (n := 4) (m := 6) (by with_unfolding_all rfl) rfl (by decide) (by with_unfolding_all rfl) (by decide) (by with_unfolding_all rfl) ⟨fun z => absurd z (by decide), fun z => by simp at z⟩
set_option maxRecDepth 20000 in
theorem b_305_36 {d nS : Nat} {x1 x2 x3 s0 : Int32} {M : am_M} {Q : Option Value → am_H → Prop} : am_Wp d 305 36 [.ref 5, .int x1, .int x2, .int x3] [.int s0] (hp nS M) Q = Q (some (.int s0)) (hp nS M) := by
  exact eq_retI2 (e := (.ireturn, 1, 0, 0, 0)) (t := .int) (by with_unfolding_all rfl) rfl (by with_unfolding_all rfl) rfl
-- java/lang/StringLatin1 canEncode(I)Z (306, (None,))
set_option maxRecDepth 20000 in
theorem b_306_0 {d nS : Nat} {x0 : Int32} {M : am_M} {Q : Option Value → am_H → Prop} : am_Wp d 306 0 [.int x0] [] (hp nS M) Q = if x0 < 0 then am_Wp d 306 15 [.int x0] [] (hp nS M) Q else am_Wp d 306 4 [.int x0] [] (hp nS M) Q := by
  refine (eq_run 1 (q := (1, [.int x0], [.int x0], hp nS M)) (by with_unfolding_all rfl)).trans ?_
  exact eq_if_lt (by with_unfolding_all rfl)
set_option maxRecDepth 20000 in
theorem b_306_4 {d nS : Nat} {x0 : Int32} {M : am_M} {Q : Option Value → am_H → Prop} : am_Wp d 306 4 [.int x0] [] (hp nS M) Q = if 255 < x0 then am_Wp d 306 15 [.int x0] [] (hp nS M) Q else am_Wp d 306 11 [.int x0] [] (hp nS M) Q := by
  refine (eq_run 2 (q := (8, [.int x0], [.int 255, .int x0], hp nS M)) (by with_unfolding_all rfl)).trans ?_
  exact eq_cmp_gt (by with_unfolding_all rfl)
set_option maxRecDepth 20000 in
theorem b_306_11 {d nS : Nat} {x0 : Int32} {M : am_M} {Q : Option Value → am_H → Prop} : am_Wp d 306 11 [.int x0] [] (hp nS M) Q = am_Wp d 306 16 [.int x0] [.int 1] (hp nS M) Q := by
  exact eq_run 2 (q := (16, [.int x0], [.int 1], hp nS M)) (by with_unfolding_all rfl)
set_option maxRecDepth 20000 in
theorem b_306_15 {d nS : Nat} {x0 : Int32} {M : am_M} {Q : Option Value → am_H → Prop} : am_Wp d 306 15 [.int x0] [] (hp nS M) Q = am_Wp d 306 16 [.int x0] [.int 0] (hp nS M) Q := by
  exact eq_run 1 (q := (16, [.int x0], [.int 0], hp nS M)) (by with_unfolding_all rfl)
set_option maxRecDepth 20000 in
theorem b_306_16 {d nS : Nat} {x0 s0 : Int32} {M : am_M} {Q : Option Value → am_H → Prop} (h1 : am_rok .boolean s0 = true) : am_Wp d 306 16 [.int x0] [.int s0] (hp nS M) Q = Q (some (.int s0)) (hp nS M) := by
  exact eq_retI2 (e := (.ireturn, 1, 0, 0, 0)) (t := .boolean) (by with_unfolding_all rfl) rfl (by with_unfolding_all rfl) h1
-- java/lang/StringLatin1 indexOfChar([BIII)I (307, (5, None, None, None))
set_option maxRecDepth 20000 in
theorem b_307_0 {d nS : Nat} {x1 x2 x3 : Int32} {M : am_M} {Q : Option Value → am_H → Prop} : am_Wp d 307 0 [.ref 5, .int x1, .int x2, .int x3, .retAddr 0, .retAddr 0] [] (hp nS M) Q = am_Wp d 307 7 [.ref 5, .int x1, .int x2, .int x3, .int x1.toInt8.toInt32, .int x2] [] (hp nS M) Q := by
  exact eq_run 5 (q := (7, [.ref 5, .int x1, .int x2, .int x3, .int x1.toInt8.toInt32, .int x2], [], hp nS M)) (by with_unfolding_all rfl)
set_option maxRecDepth 20000 in
theorem b_307_7 {d nS : Nat} {x1 x2 x3 x4 x5 : Int32} {M : am_M} {Q : Option Value → am_H → Prop} : am_Wp d 307 7 [.ref 5, .int x1, .int x2, .int x3, .int x4, .int x5] [] (hp nS M) Q = if x3 ≤ x5 then am_Wp d 307 31 [.ref 5, .int x1, .int x2, .int x3, .int x4, .int x5] [] (hp nS M) Q else am_Wp d 307 13 [.ref 5, .int x1, .int x2, .int x3, .int x4, .int x5] [] (hp nS M) Q := by
  refine (eq_run 2 (q := (10, [.ref 5, .int x1, .int x2, .int x3, .int x4, .int x5], [.int x3, .int x5], hp nS M)) (by with_unfolding_all rfl)).trans ?_
  exact eq_cmp_ge (by with_unfolding_all rfl)
set_option maxRecDepth 20000 in
theorem b_307_13 {d nS : Nat} {x1 x2 x3 x4 x5 : Int32} {M : am_M} {Q : Option Value → am_H → Prop} (h1 : vp_in x5 10) : am_Wp d 307 13 [.ref 5, .int x1, .int x2, .int x3, .int x4, .int x5] [] (hp nS M) Q = if ¬ (M 5 x5.toNatClampNeg) = x4 then am_Wp d 307 25 [.ref 5, .int x1, .int x2, .int x3, .int x4, .int x5] [] (hp nS M) Q else am_Wp d 307 22 [.ref 5, .int x1, .int x2, .int x3, .int x4, .int x5] [] (hp nS M) Q := by
  refine (eq_run 2 (q := (16, [.ref 5, .int x1, .int x2, .int x3, .int x4, .int x5], [.int x5, .ref 5], hp nS M)) (by with_unfolding_all rfl)).trans ?_
  refine (eq_bald (e := (.baload, 1, 0, 0, 0)) (by with_unfolding_all rfl) rfl (n := 10) (by with_unfolding_all rfl) h1).trans ?_
  refine (eq_run 1 (q := (19, [.ref 5, .int x1, .int x2, .int x3, .int x4, .int x5], [.int x4, .int (M 5 x5.toNatClampNeg)], hp nS M)) (by with_unfolding_all rfl)).trans ?_
  exact eq_cmp_ne (by with_unfolding_all rfl)
set_option maxRecDepth 20000 in
theorem b_307_22 {d nS : Nat} {x1 x2 x3 x4 x5 : Int32} {M : am_M} {Q : Option Value → am_H → Prop} : am_Wp d 307 22 [.ref 5, .int x1, .int x2, .int x3, .int x4, .int x5] [] (hp nS M) Q = Q (some (.int x5)) (hp nS M) := by
  refine (eq_run 1 (q := (24, [.ref 5, .int x1, .int x2, .int x3, .int x4, .int x5], [.int x5], hp nS M)) (by with_unfolding_all rfl)).trans ?_
  exact eq_retI2 (e := (.ireturn, 1, 0, 0, 0)) (t := .int) (by with_unfolding_all rfl) rfl (by with_unfolding_all rfl) rfl
set_option maxRecDepth 20000 in
theorem b_307_25 {d nS : Nat} {x1 x2 x3 x4 x5 : Int32} {M : am_M} {Q : Option Value → am_H → Prop} : am_Wp d 307 25 [.ref 5, .int x1, .int x2, .int x3, .int x4, .int x5] [] (hp nS M) Q = am_Wp d 307 7 [.ref 5, .int x1, .int x2, .int x3, .int x4, .int (x5 + 1)] [] (hp nS M) Q := by
  exact eq_run 2 (q := (7, [.ref 5, .int x1, .int x2, .int x3, .int x4, .int (x5 + 1)], [], hp nS M)) (by with_unfolding_all rfl)
set_option maxRecDepth 20000 in
theorem b_307_31 {d nS : Nat} {x1 x2 x3 x4 x5 : Int32} {M : am_M} {Q : Option Value → am_H → Prop} : am_Wp d 307 31 [.ref 5, .int x1, .int x2, .int x3, .int x4, .int x5] [] (hp nS M) Q = Q (some (.int (-1))) (hp nS M) := by
  refine (eq_run 1 (q := (32, [.ref 5, .int x1, .int x2, .int x3, .int x4, .int x5], [.int (-1)], hp nS M)) (by with_unfolding_all rfl)).trans ?_
  exact eq_retI2 (e := (.ireturn, 1, 0, 0, 0)) (t := .int) (by with_unfolding_all rfl) rfl (by with_unfolding_all rfl) rfl
-- java/lang/String charAt(I)C (308, (6, None))
set_option maxRecDepth 20000 in
theorem b_308_0 {d nS : Nat} {x1 : Int32} {M : am_M} {Q : Option Value → am_H → Prop} : am_Wp (d + 1) 308 0 [.ref 6, .int x1] [] (hp nS M) Q = am_Wp d 302 0 [.ref 6] [] (hp nS M) (fun v h1 => am_Wp (d + 1) 308 4 [.ref 6, .int x1] (am_ans v []) h1 Q) := by
  refine (eq_run 1 (q := (1, [.ref 6, .int x1], [.ref 6], hp nS M)) (by with_unfolding_all rfl)).trans ?_
  exact eq_call2 (e := (.invokevirtual 492, 3, 0, 302, 365)) (as := [.ref 6]) (r := []) (n := 1) (m := 1) (by with_unfolding_all rfl) rfl (by decide) (by with_unfolding_all rfl) (by decide) (by with_unfolding_all rfl) ⟨fun _ => am_rec_ok (c := 15) (by with_unfolding_all rfl) (by decide +kernel), fun z => by simp at z⟩
set_option maxRecDepth 20000 in
theorem b_308_4 {d nS : Nat} {x1 s0 : Int32} {M : am_M} {Q : Option Value → am_H → Prop} : am_Wp d 308 4 [.ref 6, .int x1] [.int s0] (hp nS M) Q = if s0 = 0 then am_Wp d 308 16 [.ref 6, .int x1] [] (hp nS M) Q else am_Wp d 308 7 [.ref 6, .int x1] [] (hp nS M) Q := by
  exact eq_if_eq (by with_unfolding_all rfl)
set_option maxRecDepth 20000 in
theorem b_308_7 {d nS : Nat} {x1 : Int32} {M : am_M} {Q : Option Value → am_H → Prop} : am_Wp (d + 1) 308 7 [.ref 6, .int x1] [] (hp nS M) Q = am_Wp d 309 0 [.ref 7, .int x1] [] (hp nS M) (fun v h1 => am_Wp (d + 1) 308 15 [.ref 6, .int x1] (am_ans v []) h1 Q) := by
  refine (eq_run 3 (q := (12, [.ref 6, .int x1], [.int x1, .ref 7], hp nS M)) (by with_unfolding_all rfl)).trans ?_
  exact eq_call2 (e := (.invokestatic 495, 3, 1, 309, 366)) (as := [.ref 7, .int x1]) (r := []) (n := 2) (m := 2) (by with_unfolding_all rfl) rfl (by decide) (by with_unfolding_all rfl) (by decide) (by with_unfolding_all rfl) ⟨fun z => absurd z (by decide), fun z => by simp at z⟩
set_option maxRecDepth 20000 in
theorem b_308_15 {d nS : Nat} {x1 s0 : Int32} {M : am_M} {Q : Option Value → am_H → Prop} (h1 : am_rok .char s0 = true) : am_Wp d 308 15 [.ref 6, .int x1] [.int s0] (hp nS M) Q = Q (some (.int s0)) (hp nS M) := by
  exact eq_retI2 (e := (.ireturn, 1, 0, 0, 0)) (t := .char) (by with_unfolding_all rfl) rfl (by with_unfolding_all rfl) h1
-- b_308_16: invokestatic
-- java/lang/StringLatin1 charAt([BI)C (309, (7, None))
set_option maxRecDepth 20000 in
theorem b_309_0 {d nS : Nat} {x1 : Int32} {M : am_M} {Q : Option Value → am_H → Prop} : am_Wp (d + 1) 309 0 [.ref 7, .int x1] [] (hp nS M) Q = am_Wp d 310 0 [.int x1, .int 182] [] (hp nS M) (fun v h1 => am_Wp (d + 1) 309 6 [.ref 7, .int x1] (am_ans v []) h1 Q) := by
  refine (eq_run 3 (q := (3, [.ref 7, .int x1], [.int 182, .int x1], hp nS M)) (by with_unfolding_all rfl)).trans ?_
  exact eq_call2 (e := (.invokestatic 9, 3, 1, 310, 371)) (as := [.int x1, .int 182]) (r := []) (n := 2) (m := 2) (by with_unfolding_all rfl) rfl (by decide) (by with_unfolding_all rfl) (by decide) (by with_unfolding_all rfl) ⟨fun z => absurd z (by decide), fun z => by simp at z⟩
set_option maxRecDepth 20000 in
theorem b_309_6 {d nS : Nat} {x1 : Int32} {M : am_M} {Q : Option Value → am_H → Prop} (h1 : vp_in x1 182) (h2 : am_rok .char ((((M 7 x1.toNatClampNeg) &&& 255).toUInt32 % 65536).toInt32) = true) : am_Wp d 309 6 [.ref 7, .int x1] [] (hp nS M) Q = Q (some (.int ((((M 7 x1.toNatClampNeg) &&& 255).toUInt32 % 65536).toInt32))) (hp nS M) := by
  refine (eq_run 2 (q := (8, [.ref 7, .int x1], [.int x1, .ref 7], hp nS M)) (by with_unfolding_all rfl)).trans ?_
  refine (eq_bald (e := (.baload, 1, 0, 0, 0)) (by with_unfolding_all rfl) rfl (n := 182) (by with_unfolding_all rfl) h1).trans ?_
  refine (eq_run 3 (q := (14, [.ref 7, .int x1], [.int ((((M 7 x1.toNatClampNeg) &&& 255).toUInt32 % 65536).toInt32)], hp nS M)) (by with_unfolding_all rfl)).trans ?_
  exact eq_retI2 (e := (.ireturn, 1, 0, 0, 0)) (t := .char) (by with_unfolding_all rfl) rfl (by with_unfolding_all rfl) h2
-- java/lang/String checkIndex(II)V (310, (None, None))
set_option maxRecDepth 20000 in
theorem b_310_0 {d nS : Nat} {x0 x1 : Int32} {M : am_M} {Q : Option Value → am_H → Prop} : am_Wp (d + 1) 310 0 [.int x0, .int x1] [] (hp nS M) Q = am_Wp d 311 0 [.int x0, .int x1, .ref 8] [] (hp nS M) (fun v h1 => am_Wp (d + 1) 310 8 [.int x0, .int x1] (am_ans v []) h1 Q) := by
  refine (eq_run 3 (q := (5, [.int x0, .int x1], [.ref 8, .int x1, .int x0], hp nS M)) (by with_unfolding_all rfl)).trans ?_
  exact eq_call2 (e := (.invokestatic 1059, 3, 1, 311, 370)) (as := [.int x0, .int x1, .ref 8]) (r := []) (n := 3) (m := 3) (by with_unfolding_all rfl) rfl (by decide) (by with_unfolding_all rfl) (by decide) (by with_unfolding_all rfl) ⟨fun z => absurd z (by decide), fun z => by simp at z⟩
set_option maxRecDepth 20000 in
theorem b_310_8 {d nS : Nat} {x0 x1 s0 : Int32} {M : am_M} {Q : Option Value → am_H → Prop} : am_Wp d 310 8 [.int x0, .int x1] [.int s0] (hp nS M) Q = Q none (hp nS M) := by
  refine (eq_run 1 (q := (9, [.int x0, .int x1], [], hp nS M)) (by with_unfolding_all rfl)).trans ?_
  exact eq_retV2 (e := (.return_, 1, 0, 0, 0)) (by with_unfolding_all rfl) rfl (by with_unfolding_all rfl)
-- jdk/internal/util/Preconditions checkIndex(IILjava/util/function/BiFunction;)I (311, (None, None, 8))
set_option maxRecDepth 20000 in
theorem b_311_0 {d nS : Nat} {x0 x1 : Int32} {M : am_M} {Q : Option Value → am_H → Prop} : am_Wp d 311 0 [.int x0, .int x1, .ref 8] [] (hp nS M) Q = if x0 < 0 then am_Wp d 311 9 [.int x0, .int x1, .ref 8] [] (hp nS M) Q else am_Wp d 311 4 [.int x0, .int x1, .ref 8] [] (hp nS M) Q := by
  refine (eq_run 1 (q := (1, [.int x0, .int x1, .ref 8], [.int x0], hp nS M)) (by with_unfolding_all rfl)).trans ?_
  exact eq_if_lt (by with_unfolding_all rfl)
set_option maxRecDepth 20000 in
theorem b_311_4 {d nS : Nat} {x0 x1 : Int32} {M : am_M} {Q : Option Value → am_H → Prop} : am_Wp d 311 4 [.int x0, .int x1, .ref 8] [] (hp nS M) Q = if x0 < x1 then am_Wp d 311 16 [.int x0, .int x1, .ref 8] [] (hp nS M) Q else am_Wp d 311 9 [.int x0, .int x1, .ref 8] [] (hp nS M) Q := by
  refine (eq_run 2 (q := (6, [.int x0, .int x1, .ref 8], [.int x1, .int x0], hp nS M)) (by with_unfolding_all rfl)).trans ?_
  exact eq_cmp_lt (by with_unfolding_all rfl)
-- b_311_9: invokestatic
set_option maxRecDepth 20000 in
theorem b_311_16 {d nS : Nat} {x0 x1 : Int32} {M : am_M} {Q : Option Value → am_H → Prop} : am_Wp d 311 16 [.int x0, .int x1, .ref 8] [] (hp nS M) Q = Q (some (.int x0)) (hp nS M) := by
  refine (eq_run 1 (q := (17, [.int x0, .int x1, .ref 8], [.int x0], hp nS M)) (by with_unfolding_all rfl)).trans ?_
  exact eq_retI2 (e := (.ireturn, 1, 0, 0, 0)) (t := .int) (by with_unfolding_all rfl) rfl (by with_unfolding_all rfl) rfl
set_option maxRecDepth 20000 in
theorem b_290_18 {d nS : Nat} {x1 : Int32} {M : am_M} {Q : Option Value → am_H → Prop} (h1 : am_fitI .boolean x1 = true) : am_Wp d 290 18 [.ref 205, .int x1, .retAddr 0] [] (hp nS M) Q = am_Wp d 290 35 [.ref 205, .int x1, .int 0] [] (hp nS (am_up (am_up (am_up M 205 59 x1) 205 60 1) 205 61 0)) Q := by
  refine (eq_run 2 (q := (20, [.ref 205, .int x1, .retAddr 0], [.int x1, .ref 205], hp nS M)) (by with_unfolding_all rfl)).trans ?_
  refine (eq_putb (e := (.putfield 470, 3, 11, 59, 202)) (by with_unfolding_all rfl) rfl ⟨rfl, by with_unfolding_all rfl, by with_unfolding_all rfl⟩ (by decide) h1).trans ?_
  exact eq_run 8 (q := (35, [.ref 205, .int x1, .int 0], [], hp nS (am_up (am_up (am_up M 205 59 x1) 205 60 1) 205 61 0))) (by with_unfolding_all rfl)
