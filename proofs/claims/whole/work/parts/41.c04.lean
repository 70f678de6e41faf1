-- LarkExchange$Town dayGoes(LLarkExchange$World;Z)I (95, (17, 101, None))
set_option maxRecDepth 20000 in
theorem b_95i1_0 {d nS : Nat} {x2 : Int32} {M : am_M} {Q : Option Value → am_H → Prop} : am_Wp (d + 1) 95 0 [.ref 17, .ref 101, .int x2, .retAddr 0, .retAddr 0] [] (hp nS M) Q = am_Wp d 96 0 [.ref 17, .ref 101, .retAddr 0, .retAddr 0, .retAddr 0, .retAddr 0] [] (hp nS M) (fun v h1 => am_Wp (d + 1) 95 5 [.ref 17, .ref 101, .int x2, .retAddr 0, .retAddr 0] (am_ans v []) h1 Q) := by
  refine (eq_run 2 (q := (2, [.ref 17, .ref 101, .int x2, .retAddr 0, .retAddr 0], [.ref 101, .ref 17], hp nS M)) (by with_unfolding_all rfl)).trans ?_
  exact eq_call2 (e := (.invokevirtual 86, 3, 0, 96, 163)) (as := [.ref 17, .ref 101]) (r := []) (n := 2) (m := 6) (by with_unfolding_all rfl) rfl (by decide) (by with_unfolding_all rfl) (by decide) (by with_unfolding_all rfl) ⟨fun _ => am_rec_ok (c := 11) (by with_unfolding_all rfl) (by decide +kernel), fun z => by simp at z⟩
set_option maxRecDepth 20000 in
theorem b_95i1_5 {d nS : Nat} {x2 : Int32} {M : am_M} {Q : Option Value → am_H → Prop} : am_Wp d 95 5 [.ref 17, .ref 101, .int x2, .retAddr 0, .retAddr 0] [] (hp nS M) Q = am_Wp d 95 10 [.ref 17, .ref 101, .int x2, .int 0, .int 0] [] (hp nS M) Q := by
  exact eq_run 4 (q := (10, [.ref 17, .ref 101, .int x2, .int 0, .int 0], [], hp nS M)) (by with_unfolding_all rfl)
set_option maxRecDepth 20000 in
theorem b_95i1_10 {d nS : Nat} {x2 x3 x4 : Int32} {M : am_M} {Q : Option Value → am_H → Prop} : am_Wp d 95 10 [.ref 17, .ref 101, .int x2, .int x3, .int x4] [] (hp nS M) Q = if (M 101 0) ≤ x4 then am_Wp d 95 49 [.ref 17, .ref 101, .int x2, .int x3, .int x4] [] (hp nS M) Q else am_Wp d 95 19 [.ref 17, .ref 101, .int x2, .int x3, .int x4] [] (hp nS M) Q := by
  refine (eq_run 3 (q := (16, [.ref 17, .ref 101, .int x2, .int x3, .int x4], [.int (M 101 0), .int x4], hp nS M)) (by with_unfolding_all rfl)).trans ?_
  exact eq_cmp_ge (by with_unfolding_all rfl)
set_option maxRecDepth 20000 in
theorem b_95i1_19 {d nS : Nat} {x2 x3 x4 : Int32} {M : am_M} {Q : Option Value → am_H → Prop} (h1 : vp_in x4 6) : am_Wp d 95 19 [.ref 17, .ref 101, .int x2, .int x3, .int x4] [] (hp nS M) Q = if ¬ (M 105 x4.toNatClampNeg) = 0 then am_Wp d 95 43 [.ref 17, .ref 101, .int x2, .int x3, .int x4] [] (hp nS M) Q else am_Wp d 95 29 [.ref 17, .ref 101, .int x2, .int x3, .int x4] [] (hp nS M) Q := by
  refine (eq_run 3 (q := (25, [.ref 17, .ref 101, .int x2, .int x3, .int x4], [.int x4, .ref 105], hp nS M)) (by with_unfolding_all rfl)).trans ?_
  refine (eq_ald (e := (.iaload, 1, 0, 0, 0)) (by with_unfolding_all rfl) rfl (n := 6) (by with_unfolding_all rfl) h1).trans ?_
  exact eq_if_ne (by with_unfolding_all rfl)
set_option maxRecDepth 20000 in
theorem b_95i1_29 {d nS : Nat} {x2 x3 x4 : Int32} {M : am_M} {Q : Option Value → am_H → Prop} : am_Wp (d + 1) 95 29 [.ref 17, .ref 101, .int x2, .int x3, .int x4] [] (hp nS M) Q = am_Wp d 97 0 [.ref 17, .ref 101, .int x4, .int x2, .retAddr 0, .retAddr 0, .retAddr 0] [] (hp nS M) (fun v h1 => am_Wp (d + 1) 95 37 [.ref 17, .ref 101, .int x2, .int x3, .int x4] (am_ans v []) h1 Q) := by
  refine (eq_run 4 (q := (34, [.ref 17, .ref 101, .int x2, .int x3, .int x4], [.int x2, .int x4, .ref 101, .ref 17], hp nS M)) (by with_unfolding_all rfl)).trans ?_
  exact eq_call2 (e := (.invokevirtual 96, 3, 0, 97, 164)) (as := [.ref 17, .ref 101, .int x4, .int x2]) (r := []) (n := 4) (m := 7) (by with_unfolding_all rfl) rfl (by decide) (by with_unfolding_all rfl) (by decide) (by with_unfolding_all rfl) ⟨fun _ => am_rec_ok (c := 11) (by with_unfolding_all rfl) (by decide +kernel), fun z => by simp at z⟩
set_option maxRecDepth 20000 in
theorem b_95i1_37 {d nS : Nat} {x2 x3 x4 s0 : Int32} {M : am_M} {Q : Option Value → am_H → Prop} : am_Wp d 95 37 [.ref 17, .ref 101, .int x2, .int x3, .int x4] [.int s0] (hp nS M) Q = if s0 = 0 then am_Wp d 95 43 [.ref 17, .ref 101, .int x2, .int x3, .int x4] [] (hp nS M) Q else am_Wp d 95 40 [.ref 17, .ref 101, .int x2, .int x3, .int x4] [] (hp nS M) Q := by
  exact eq_if_eq (by with_unfolding_all rfl)
set_option maxRecDepth 20000 in
theorem b_95i1_40 {d nS : Nat} {x2 x3 x4 : Int32} {M : am_M} {Q : Option Value → am_H → Prop} : am_Wp d 95 40 [.ref 17, .ref 101, .int x2, .int x3, .int x4] [] (hp nS M) Q = am_Wp d 95 43 [.ref 17, .ref 101, .int x2, .int (x3 + 1), .int x4] [] (hp nS M) Q := by
  exact eq_run 1 (q := (43, [.ref 17, .ref 101, .int x2, .int (x3 + 1), .int x4], [], hp nS M)) (by with_unfolding_all rfl)
set_option maxRecDepth 20000 in
theorem b_95i1_43 {d nS : Nat} {x2 x3 x4 : Int32} {M : am_M} {Q : Option Value → am_H → Prop} : am_Wp d 95 43 [.ref 17, .ref 101, .int x2, .int x3, .int x4] [] (hp nS M) Q = am_Wp d 95 10 [.ref 17, .ref 101, .int x2, .int x3, .int (x4 + 1)] [] (hp nS M) Q := by
  exact eq_run 2 (q := (10, [.ref 17, .ref 101, .int x2, .int x3, .int (x4 + 1)], [], hp nS M)) (by with_unfolding_all rfl)
set_option maxRecDepth 20000 in
theorem b_95i1_49 {d nS : Nat} {x2 x3 x4 : Int32} {M : am_M} {Q : Option Value → am_H → Prop} : am_Wp (d + 1) 95 49 [.ref 17, .ref 101, .int x2, .int x3, .int x4] [] (hp nS M) Q = am_Wp d 98 0 [.ref 17, .ref 101, .retAddr 0, .retAddr 0] [] (hp nS M) (fun v h1 => am_Wp (d + 1) 95 54 [.ref 17, .ref 101, .int x2, .int x3, .int x4] (am_ans v []) h1 Q) := by
  refine (eq_run 2 (q := (51, [.ref 17, .ref 101, .int x2, .int x3, .int x4], [.ref 101, .ref 17], hp nS M)) (by with_unfolding_all rfl)).trans ?_
  exact eq_call2 (e := (.invokevirtual 100, 3, 0, 98, 165)) (as := [.ref 17, .ref 101]) (r := []) (n := 2) (m := 4) (by with_unfolding_all rfl) rfl (by decide) (by with_unfolding_all rfl) (by decide) (by with_unfolding_all rfl) ⟨fun _ => am_rec_ok (c := 11) (by with_unfolding_all rfl) (by decide +kernel), fun z => by simp at z⟩
set_option maxRecDepth 20000 in
theorem b_95i1_54 {d nS : Nat} {x2 x3 x4 : Int32} {M : am_M} {Q : Option Value → am_H → Prop} : am_Wp d 95 54 [.ref 17, .ref 101, .int x2, .int x3, .int x4] [] (hp nS M) Q = am_Wp d 95 57 [.ref 17, .ref 101, .int x2, .int x3, .int 0] [] (hp nS M) Q := by
  exact eq_run 2 (q := (57, [.ref 17, .ref 101, .int x2, .int x3, .int 0], [], hp nS M)) (by with_unfolding_all rfl)
set_option maxRecDepth 20000 in
theorem b_95i1_57 {d nS : Nat} {x2 x3 x4 : Int32} {M : am_M} {Q : Option Value → am_H → Prop} : am_Wp d 95 57 [.ref 17, .ref 101, .int x2, .int x3, .int x4] [] (hp nS M) Q = if (M 41 1) ≤ x4 then am_Wp d 95 100 [.ref 17, .ref 101, .int x2, .int x3, .int x4] [] (hp nS M) Q else am_Wp d 95 69 [.ref 17, .ref 101, .int x2, .int x3, .int x4] [] (hp nS M) Q := by
  refine (eq_run 4 (q := (66, [.ref 17, .ref 101, .int x2, .int x3, .int x4], [.int (M 41 1), .int x4], hp nS M)) (by with_unfolding_all rfl)).trans ?_
  exact eq_cmp_ge (by with_unfolding_all rfl)
set_option maxRecDepth 20000 in
theorem b_95i1_69 {d nS : Nat} {x2 x3 x4 : Int32} {M : am_M} {Q : Option Value → am_H → Prop} : am_Wp (d + 1) 95 69 [.ref 17, .ref 101, .int x2, .int x3, .int x4] [] (hp nS M) Q = am_Wp d 33 0 [.ref 41, .int x4, .int 0] [] (hp nS M) (fun v h1 => am_Wp (d + 1) 95 79 [.ref 17, .ref 101, .int x2, .int x3, .int x4] (am_ans v []) h1 Q) := by
  refine (eq_run 4 (q := (76, [.ref 17, .ref 101, .int x2, .int x3, .int x4], [.int 0, .int x4, .ref 41], hp nS M)) (by with_unfolding_all rfl)).trans ?_
  exact eq_call2 (e := (.invokevirtual 106, 3, 0, 33, 166)) (as := [.ref 41, .int x4, .int 0]) (r := []) (n := 3) (m := 3) (by with_unfolding_all rfl) rfl (by decide) (by with_unfolding_all rfl) (by decide) (by with_unfolding_all rfl) ⟨fun _ => am_rec_ok (c := 6) (by with_unfolding_all rfl) (by decide +kernel), fun z => by simp at z⟩
set_option maxRecDepth 20000 in
theorem b_95i1_79 {d nS : Nat} {x2 x3 x4 s0 : Int32} {M : am_M} {Q : Option Value → am_H → Prop} : am_Wp d 95 79 [.ref 17, .ref 101, .int x2, .int x3, .int x4] [.int s0] (hp nS M) Q = if ¬ s0 = (M 101 4) then am_Wp d 95 94 [.ref 17, .ref 101, .int x2, .int x3, .int x4] [] (hp nS M) Q else am_Wp d 95 86 [.ref 17, .ref 101, .int x2, .int x3, .int x4] [] (hp nS M) Q := by
  refine (eq_run 2 (q := (83, [.ref 17, .ref 101, .int x2, .int x3, .int x4], [.int (M 101 4), .int s0], hp nS M)) (by with_unfolding_all rfl)).trans ?_
  exact eq_cmp_ne (by with_unfolding_all rfl)
set_option maxRecDepth 20000 in
theorem b_95i1_86 {d nS : Nat} {x2 x3 x4 : Int32} {M : am_M} {Q : Option Value → am_H → Prop} : am_Wp (d + 1) 95 86 [.ref 17, .ref 101, .int x2, .int x3, .int x4] [] (hp nS M) Q = am_Wp d 99 0 [.ref 17, .ref 101, .int x4, .int x2, .retAddr 0, .retAddr 0, .retAddr 0] [] (hp nS M) (fun v h1 => am_Wp (d + 1) 95 94 [.ref 17, .ref 101, .int x2, .int x3, .int x4] (am_ans v []) h1 Q) := by
  refine (eq_run 4 (q := (91, [.ref 17, .ref 101, .int x2, .int x3, .int x4], [.int x2, .int x4, .ref 101, .ref 17], hp nS M)) (by with_unfolding_all rfl)).trans ?_
  exact eq_call2 (e := (.invokevirtual 113, 3, 0, 99, 167)) (as := [.ref 17, .ref 101, .int x4, .int x2]) (r := []) (n := 4) (m := 7) (by with_unfolding_all rfl) rfl (by decide) (by with_unfolding_all rfl) (by decide) (by with_unfolding_all rfl) ⟨fun _ => am_rec_ok (c := 11) (by with_unfolding_all rfl) (by decide +kernel), fun z => by simp at z⟩
set_option maxRecDepth 20000 in
theorem b_95i1_94 {d nS : Nat} {x2 x3 x4 : Int32} {M : am_M} {Q : Option Value → am_H → Prop} : am_Wp d 95 94 [.ref 17, .ref 101, .int x2, .int x3, .int x4] [] (hp nS M) Q = am_Wp d 95 57 [.ref 17, .ref 101, .int x2, .int x3, .int (x4 + 1)] [] (hp nS M) Q := by
  exact eq_run 2 (q := (57, [.ref 17, .ref 101, .int x2, .int x3, .int (x4 + 1)], [], hp nS M)) (by with_unfolding_all rfl)
set_option maxRecDepth 20000 in
theorem b_95i1_100 {d nS : Nat} {x2 x3 x4 : Int32} {M : am_M} {Q : Option Value → am_H → Prop} : am_Wp (d + 1) 95 100 [.ref 17, .ref 101, .int x2, .int x3, .int x4] [] (hp nS M) Q = am_Wp d 100 0 [.ref 17, .ref 101, .int x2, .retAddr 0, .retAddr 0] [] (hp nS M) (fun v h1 => am_Wp (d + 1) 95 106 [.ref 17, .ref 101, .int x2, .int x3, .int x4] (am_ans v []) h1 Q) := by
  refine (eq_run 3 (q := (103, [.ref 17, .ref 101, .int x2, .int x3, .int x4], [.int x2, .ref 101, .ref 17], hp nS M)) (by with_unfolding_all rfl)).trans ?_
  exact eq_call2 (e := (.invokevirtual 117, 3, 0, 100, 168)) (as := [.ref 17, .ref 101, .int x2]) (r := []) (n := 3) (m := 5) (by with_unfolding_all rfl) rfl (by decide) (by with_unfolding_all rfl) (by decide) (by with_unfolding_all rfl) ⟨fun _ => am_rec_ok (c := 11) (by with_unfolding_all rfl) (by decide +kernel), fun z => by simp at z⟩
set_option maxRecDepth 20000 in
theorem b_95i1_106 {d nS : Nat} {x2 x3 x4 : Int32} {M : am_M} {Q : Option Value → am_H → Prop} : am_Wp d 95 106 [.ref 17, .ref 101, .int x2, .int x3, .int x4] [] (hp nS M) Q = Q (some (.int x3)) (hp nS (am_up M 101 4 ((M 101 4) + 1))) := by
  refine (eq_run 7 (q := (117, [.ref 17, .ref 101, .int x2, .int x3, .int x4], [.int x3], hp nS (am_up M 101 4 ((M 101 4) + 1)))) (by with_unfolding_all rfl)).trans ?_
  exact eq_retI2 (e := (.ireturn, 1, 0, 0, 0)) (t := .int) (by with_unfolding_all rfl) rfl (by with_unfolding_all rfl) rfl
-- LarkExchange$Town boysCome(LLarkExchange$World;)V (96, (17, 18))
set_option maxRecDepth 20000 in
theorem b_96_0 {d nS : Nat} {M : am_M} {Q : Option Value → am_H → Prop} : am_Wp d 96 0 [.ref 17, .ref 18, .retAddr 0, .retAddr 0, .retAddr 0, .retAddr 0] [] (hp nS M) Q = am_Wp d 96 2 [.ref 17, .ref 18, .int 0, .retAddr 0, .retAddr 0, .retAddr 0] [] (hp nS M) Q := by
  exact eq_run 2 (q := (2, [.ref 17, .ref 18, .int 0, .retAddr 0, .retAddr 0, .retAddr 0], [], hp nS M)) (by with_unfolding_all rfl)
set_option maxRecDepth 20000 in
theorem b_96_2 {d nS : Nat} {x2 : Int32} {zx3 zx4 zx5 : Value} {M : am_M} {Q : Option Value → am_H → Prop} : am_Wp d 96 2 [.ref 17, .ref 18, .int x2, zx3, zx4, zx5] [] (hp nS M) Q = if (M 39 1) ≤ x2 then am_Wp d 96 151 [.ref 17, .ref 18, .int x2, zx3, zx4, zx5] [] (hp nS M) Q else am_Wp d 96 13 [.ref 17, .ref 18, .int x2, zx3, zx4, zx5] [] (hp nS M) Q := by
  refine (eq_run 4 (q := (10, [.ref 17, .ref 18, .int x2, zx3, zx4, zx5], [.int (M 39 1), .int x2], hp nS M)) (by with_unfolding_all rfl)).trans ?_
  exact eq_cmp_ge (by with_unfolding_all rfl)
set_option maxRecDepth 20000 in
theorem b_96_13 {d nS : Nat} {x2 : Int32} {zx3 zx4 zx5 : Value} {M : am_M} {Q : Option Value → am_H → Prop} : am_Wp (d + 1) 96 13 [.ref 17, .ref 18, .int x2, zx3, zx4, zx5] [] (hp nS M) Q = am_Wp d 33 0 [.ref 39, .int x2, .int 1] [] (hp nS M) (fun v h1 => am_Wp (d + 1) 96 22 [.ref 17, .ref 18, .int x2, zx3, zx4, zx5] (am_ans v []) h1 Q) := by
  refine (eq_run 4 (q := (19, [.ref 17, .ref 18, .int x2, zx3, zx4, zx5], [.int 1, .int x2, .ref 39], hp nS M)) (by with_unfolding_all rfl)).trans ?_
  exact eq_call2 (e := (.invokevirtual 106, 3, 0, 33, 166)) (as := [.ref 39, .int x2, .int 1]) (r := []) (n := 3) (m := 3) (by with_unfolding_all rfl) rfl (by decide) (by with_unfolding_all rfl) (by decide) (by with_unfolding_all rfl) ⟨fun _ => am_rec_ok (c := 6) (by with_unfolding_all rfl) (by decide +kernel), fun z => by simp at z⟩
set_option maxRecDepth 20000 in
theorem b_96_22 {d nS : Nat} {x2 s0 : Int32} {zx3 zx4 zx5 : Value} {M : am_M} {Q : Option Value → am_H → Prop} : am_Wp (d + 1) 96 22 [.ref 17, .ref 18, .int x2, zx3, zx4, zx5] [.int s0] (hp nS M) Q = am_Wp d 33 0 [.ref 39, .int x2, .int 2] [] (hp nS M) (fun v h1 => am_Wp (d + 1) 96 32 [.ref 17, .ref 18, .int x2, .int s0, zx4, zx5] (am_ans v []) h1 Q) := by
  refine (eq_run 5 (q := (29, [.ref 17, .ref 18, .int x2, .int s0, zx4, zx5], [.int 2, .int x2, .ref 39], hp nS M)) (by with_unfolding_all rfl)).trans ?_
  exact eq_call2 (e := (.invokevirtual 106, 3, 0, 33, 166)) (as := [.ref 39, .int x2, .int 2]) (r := []) (n := 3) (m := 3) (by with_unfolding_all rfl) rfl (by decide) (by with_unfolding_all rfl) (by decide) (by with_unfolding_all rfl) ⟨fun _ => am_rec_ok (c := 6) (by with_unfolding_all rfl) (by decide +kernel), fun z => by simp at z⟩
set_option maxRecDepth 20000 in
theorem b_96_32 {d nS : Nat} {x2 x3 s0 : Int32} {zx4 zx5 : Value} {M : am_M} {Q : Option Value → am_H → Prop} : am_Wp (d + 1) 96 32 [.ref 17, .ref 18, .int x2, .int x3, zx4, zx5] [.int s0] (hp nS M) Q = am_Wp d 33 0 [.ref 39, .int x2, .int 3] [] (hp nS M) (fun v h1 => am_Wp (d + 1) 96 43 [.ref 17, .ref 18, .int x2, .int x3, .int s0, zx5] (am_ans v []) h1 Q) := by
  refine (eq_run 5 (q := (40, [.ref 17, .ref 18, .int x2, .int x3, .int s0, zx5], [.int 3, .int x2, .ref 39], hp nS M)) (by with_unfolding_all rfl)).trans ?_
  exact eq_call2 (e := (.invokevirtual 106, 3, 0, 33, 166)) (as := [.ref 39, .int x2, .int 3]) (r := []) (n := 3) (m := 3) (by with_unfolding_all rfl) rfl (by decide) (by with_unfolding_all rfl) (by decide) (by with_unfolding_all rfl) ⟨fun _ => am_rec_ok (c := 6) (by with_unfolding_all rfl) (by decide +kernel), fun z => by simp at z⟩
set_option maxRecDepth 20000 in
theorem b_96_43 {d nS : Nat} {x2 x3 x4 s0 : Int32} {zx5 : Value} {M : am_M} {Q : Option Value → am_H → Prop} : am_Wp (d + 1) 96 43 [.ref 17, .ref 18, .int x2, .int x3, .int x4, zx5] [.int s0] (hp nS M) Q = am_Wp d 33 0 [.ref 39, .int x2, .int 0] [] (hp nS M) (fun v h1 => am_Wp (d + 1) 96 54 [.ref 17, .ref 18, .int x2, .int x3, .int x4, .int s0] (am_ans v []) h1 Q) := by
  refine (eq_run 5 (q := (51, [.ref 17, .ref 18, .int x2, .int x3, .int x4, .int s0], [.int 0, .int x2, .ref 39], hp nS M)) (by with_unfolding_all rfl)).trans ?_
  exact eq_call2 (e := (.invokevirtual 106, 3, 0, 33, 166)) (as := [.ref 39, .int x2, .int 0]) (r := []) (n := 3) (m := 3) (by with_unfolding_all rfl) rfl (by decide) (by with_unfolding_all rfl) (by decide) (by with_unfolding_all rfl) ⟨fun _ => am_rec_ok (c := 6) (by with_unfolding_all rfl) (by decide +kernel), fun z => by simp at z⟩
set_option maxRecDepth 20000 in
theorem b_96_54 {d nS : Nat} {x2 x3 x4 x5 s0 : Int32} {M : am_M} {Q : Option Value → am_H → Prop} : am_Wp d 96 54 [.ref 17, .ref 18, .int x2, .int x3, .int x4, .int x5] [.int s0] (hp nS M) Q = if s0 = (M 18 4) then am_Wp d 96 64 [.ref 17, .ref 18, .int x2, .int x3, .int x4, .int x5] [] (hp nS M) Q else am_Wp d 96 61 [.ref 17, .ref 18, .int x2, .int x3, .int x4, .int x5] [] (hp nS M) Q := by
  refine (eq_run 2 (q := (58, [.ref 17, .ref 18, .int x2, .int x3, .int x4, .int x5], [.int (M 18 4), .int s0], hp nS M)) (by with_unfolding_all rfl)).trans ?_
  exact eq_cmp_eq (by with_unfolding_all rfl)
set_option maxRecDepth 20000 in
theorem b_96_61 {d nS : Nat} {x2 x3 x4 x5 : Int32} {M : am_M} {Q : Option Value → am_H → Prop} : am_Wp d 96 61 [.ref 17, .ref 18, .int x2, .int x3, .int x4, .int x5] [] (hp nS M) Q = am_Wp d 96 145 [.ref 17, .ref 18, .int x2, .int x3, .int x4, .int x5] [] (hp nS M) Q := by
  exact eq_run 1 (q := (145, [.ref 17, .ref 18, .int x2, .int x3, .int x4, .int x5], [], hp nS M)) (by with_unfolding_all rfl)
set_option maxRecDepth 20000 in
theorem b_96_64 {d nS : Nat} {x2 x3 x4 x5 : Int32} {M : am_M} {Q : Option Value → am_H → Prop} : am_Wp d 96 64 [.ref 17, .ref 18, .int x2, .int x3, .int x4, .int x5] [] (hp nS M) Q = if ¬ x3 = 11 then am_Wp d 96 79 [.ref 17, .ref 18, .int x2, .int x3, .int x4, .int x5] [] (hp nS M) Q else am_Wp d 96 70 [.ref 17, .ref 18, .int x2, .int x3, .int x4, .int x5] [] (hp nS M) Q := by
  refine (eq_run 2 (q := (67, [.ref 17, .ref 18, .int x2, .int x3, .int x4, .int x5], [.int 11, .int x3], hp nS M)) (by with_unfolding_all rfl)).trans ?_
  exact eq_cmp_ne (by with_unfolding_all rfl)
set_option maxRecDepth 20000 in
theorem b_96_70 {d nS : Nat} {x2 x3 x4 x5 : Int32} {M : am_M} {Q : Option Value → am_H → Prop} : am_Wp d 96 70 [.ref 17, .ref 18, .int x2, .int x3, .int x4, .int x5] [] (hp nS M) Q = am_Wp d 96 145 [.ref 17, .ref 18, .int x2, .int x3, .int x4, .int x5] [] (hp nS (am_up M 18 3 x5)) Q := by
  exact eq_run 4 (q := (145, [.ref 17, .ref 18, .int x2, .int x3, .int x4, .int x5], [], hp nS (am_up M 18 3 x5))) (by with_unfolding_all rfl)
set_option maxRecDepth 20000 in
theorem b_96_79 {d nS : Nat} {x2 x3 x4 x5 : Int32} {M : am_M} {Q : Option Value → am_H → Prop} : am_Wp (d + 1) 96 79 [.ref 17, .ref 18, .int x2, .int x3, .int x4, .int x5] [] (hp nS M) Q = am_Wp d 104 0 [.ref 18, .int x4] [] (hp nS M) (fun v h1 => am_Wp (d + 1) 96 85 [.ref 17, .ref 18, .int x2, .int x3, .int x4, .int x5] (am_ans v []) h1 Q) := by
  refine (eq_run 2 (q := (82, [.ref 17, .ref 18, .int x2, .int x3, .int x4, .int x5], [.int x4, .ref 18], hp nS M)) (by with_unfolding_all rfl)).trans ?_
  exact eq_call2 (e := (.invokevirtual 124, 3, 0, 104, 169)) (as := [.ref 18, .int x4]) (r := []) (n := 2) (m := 2) (by with_unfolding_all rfl) rfl (by decide) (by with_unfolding_all rfl) (by decide) (by with_unfolding_all rfl) ⟨fun _ => am_rec_ok (c := 12) (by with_unfolding_all rfl) (by decide +kernel), fun z => by simp at z⟩
set_option maxRecDepth 20000 in
theorem b_96_85 {d nS : Nat} {x2 x3 x4 x5 s0 : Int32} {M : am_M} {Q : Option Value → am_H → Prop} : am_Wp d 96 85 [.ref 17, .ref 18, .int x2, .int x3, .int x4, .int x5] [.int s0] (hp nS M) Q = if ¬ s0 = 0 then am_Wp d 96 91 [.ref 17, .ref 18, .int x2, .int x3, .int x4, .int x5] [] (hp nS M) Q else am_Wp d 96 88 [.ref 17, .ref 18, .int x2, .int x3, .int x4, .int x5] [] (hp nS M) Q := by
  exact eq_if_ne (by with_unfolding_all rfl)
set_option maxRecDepth 20000 in
theorem b_96_88 {d nS : Nat} {x2 x3 x4 x5 : Int32} {M : am_M} {Q : Option Value → am_H → Prop} : am_Wp d 96 88 [.ref 17, .ref 18, .int x2, .int x3, .int x4, .int x5] [] (hp nS M) Q = am_Wp d 96 145 [.ref 17, .ref 18, .int x2, .int x3, .int x4, .int x5] [] (hp nS M) Q := by
  exact eq_run 1 (q := (145, [.ref 17, .ref 18, .int x2, .int x3, .int x4, .int x5], [], hp nS M)) (by with_unfolding_all rfl)
set_option maxRecDepth 20000 in
theorem b_96_91 {d nS : Nat} {x2 x3 x4 x5 : Int32} {M : am_M} {Q : Option Value → am_H → Prop} : am_Wp d 96 91 [.ref 17, .ref 18, .int x2, .int x3, .int x4, .int x5] [] (hp nS M) Q = if ¬ x3 = 17 then am_Wp d 96 122 [.ref 17, .ref 18, .int x2, .int x3, .int x4, .int x5] [] (hp nS M) Q else am_Wp d 96 97 [.ref 17, .ref 18, .int x2, .int x3, .int x4, .int x5] [] (hp nS M) Q := by
  refine (eq_run 2 (q := (94, [.ref 17, .ref 18, .int x2, .int x3, .int x4, .int x5], [.int 17, .int x3], hp nS M)) (by with_unfolding_all rfl)).trans ?_
  exact eq_cmp_ne (by with_unfolding_all rfl)
set_option maxRecDepth 20000 in
theorem b_96_97 {d nS : Nat} {x2 x3 x4 x5 : Int32} {M : am_M} {Q : Option Value → am_H → Prop} (h1 : vp_in x4 6) : am_Wp (d + 1) 96 97 [.ref 17, .ref 18, .int x2, .int x3, .int x4, .int x5] [] (hp nS M) Q = am_Wp d 296 0 [.int 9, .int ((M 23 x4.toNatClampNeg) + x5)] [] (hp nS M) (fun v h1 => am_Wp (d + 1) 96 118 [.ref 17, .ref 18, .int x2, .int x3, .int x4, .int x5] (am_ans v [.int x4, .ref 23]) h1 Q) := by
  refine (eq_run 7 (q := (111, [.ref 17, .ref 18, .int x2, .int x3, .int x4, .int x5], [.int x4, .ref 23, .int 9, .int x4, .ref 23], hp nS M)) (by with_unfolding_all rfl)).trans ?_
  refine (eq_ald (e := (.iaload, 1, 0, 0, 0)) (by with_unfolding_all rfl) rfl (n := 6) (by with_unfolding_all rfl) h1).trans ?_
  refine (eq_run 2 (q := (115, [.ref 17, .ref 18, .int x2, .int x3, .int x4, .int x5], [.int ((M 23 x4.toNatClampNeg) + x5), .int 9, .int x4, .ref 23], hp nS M)) (by with_unfolding_all rfl)).trans ?_
  exact eq_call2 (e := (.invokestatic 131, 3, 1, 296, 170)) (as := [.int 9, .int ((M 23 x4.toNatClampNeg) + x5)]) (r := [.int x4, .ref 23]) (n := 2) (m := 2) (by with_unfolding_all rfl) rfl (by decide) (by with_unfolding_all rfl) (by decide) (by with_unfolding_all rfl) ⟨fun z => absurd z (by decide), fun z => by simp at z⟩
set_option maxRecDepth 20000 in
theorem b_96_118 {d nS : Nat} {x2 x3 x4 x5 s1 s2 : Int32} {M : am_M} {Q : Option Value → am_H → Prop} (h1 : vp_in s1 6) : am_Wp d 96 118 [.ref 17, .ref 18, .int x2, .int x3, .int x4, .int x5] [.int s2, .int s1, .ref 23] (hp nS M) Q = am_Wp d 96 145 [.ref 17, .ref 18, .int x2, .int x3, .int x4, .int x5] [] (hp nS (am_up M 23 s1.toNatClampNeg s2)) Q := by
  refine (eq_ast (e := (.iastore, 1, 0, 0, 0)) (by with_unfolding_all rfl) rfl (n := 6) (by with_unfolding_all rfl) (by decide) h1).trans ?_
  exact eq_run 1 (q := (145, [.ref 17, .ref 18, .int x2, .int x3, .int x4, .int x5], [], hp nS (am_up M 23 s1.toNatClampNeg s2))) (by with_unfolding_all rfl)
set_option maxRecDepth 20000 in
theorem b_96_122 {d nS : Nat} {x2 x3 x4 x5 : Int32} {M : am_M} {Q : Option Value → am_H → Prop} : am_Wp d 96 122 [.ref 17, .ref 18, .int x2, .int x3, .int x4, .int x5] [] (hp nS M) Q = if ¬ x3 = 18 then am_Wp d 96 139 [.ref 17, .ref 18, .int x2, .int x3, .int x4, .int x5] [] (hp nS M) Q else am_Wp d 96 128 [.ref 17, .ref 18, .int x2, .int x3, .int x4, .int x5] [] (hp nS M) Q := by
  refine (eq_run 2 (q := (125, [.ref 17, .ref 18, .int x2, .int x3, .int x4, .int x5], [.int 18, .int x3], hp nS M)) (by with_unfolding_all rfl)).trans ?_
  exact eq_cmp_ne (by with_unfolding_all rfl)
set_option maxRecDepth 20000 in
theorem b_96_128 {d nS : Nat} {x2 x3 x4 x5 : Int32} {M : am_M} {Q : Option Value → am_H → Prop} (h1 : vp_in x4 6) : am_Wp d 96 128 [.ref 17, .ref 18, .int x2, .int x3, .int x4, .int x5] [] (hp nS M) Q = am_Wp d 96 145 [.ref 17, .ref 18, .int x2, .int x3, .int x4, .int x5] [] (hp nS (am_up M 23 x4.toNatClampNeg 0)) Q := by
  refine (eq_run 4 (q := (135, [.ref 17, .ref 18, .int x2, .int x3, .int x4, .int x5], [.int 0, .int x4, .ref 23], hp nS M)) (by with_unfolding_all rfl)).trans ?_
  refine (eq_ast (e := (.iastore, 1, 0, 0, 0)) (by with_unfolding_all rfl) rfl (n := 6) (by with_unfolding_all rfl) (by decide) h1).trans ?_
  exact eq_run 1 (q := (145, [.ref 17, .ref 18, .int x2, .int x3, .int x4, .int x5], [], hp nS (am_up M 23 x4.toNatClampNeg 0))) (by with_unfolding_all rfl)
set_option maxRecDepth 20000 in
theorem b_96_139 {d nS : Nat} {x2 x3 x4 x5 : Int32} {M : am_M} {Q : Option Value → am_H → Prop} : am_Wp (d + 1) 96 139 [.ref 17, .ref 18, .int x2, .int x3, .int x4, .int x5] [] (hp nS M) Q = am_Wp d 113 0 [.ref 18, .int x4] [] (hp nS M) (fun v h1 => am_Wp (d + 1) 96 145 [.ref 17, .ref 18, .int x2, .int x3, .int x4, .int x5] (am_ans v []) h1 Q) := by
  refine (eq_run 2 (q := (142, [.ref 17, .ref 18, .int x2, .int x3, .int x4, .int x5], [.int x4, .ref 18], hp nS M)) (by with_unfolding_all rfl)).trans ?_
  exact eq_call2 (e := (.invokevirtual 136, 3, 0, 113, 171)) (as := [.ref 18, .int x4]) (r := []) (n := 2) (m := 2) (by with_unfolding_all rfl) rfl (by decide) (by with_unfolding_all rfl) (by decide) (by with_unfolding_all rfl) ⟨fun _ => am_rec_ok (c := 12) (by with_unfolding_all rfl) (by decide +kernel), fun z => by simp at z⟩
set_option maxRecDepth 20000 in
theorem b_96_145 {d nS : Nat} {x2 x3 x4 x5 : Int32} {M : am_M} {Q : Option Value → am_H → Prop} : am_Wp d 96 145 [.ref 17, .ref 18, .int x2, .int x3, .int x4, .int x5] [] (hp nS M) Q = am_Wp d 96 2 [.ref 17, .ref 18, .int (x2 + 1), .int x3, .int x4, .int x5] [] (hp nS M) Q := by
  exact eq_run 2 (q := (2, [.ref 17, .ref 18, .int (x2 + 1), .int x3, .int x4, .int x5], [], hp nS M)) (by with_unfolding_all rfl)
set_option maxRecDepth 20000 in
theorem b_96_151 {d nS : Nat} {x2 : Int32} {zx3 zx4 zx5 : Value} {M : am_M} {Q : Option Value → am_H → Prop} : am_Wp d 96 151 [.ref 17, .ref 18, .int x2, zx3, zx4, zx5] [] (hp nS M) Q = Q none (hp nS M) := by
  exact eq_retV2 (e := (.return_, 1, 0, 0, 0)) (by with_unfolding_all rfl) rfl (by with_unfolding_all rfl)
-- LarkExchange$Town boysCome(LLarkExchange$World;)V (96, (17, 101))
set_option maxRecDepth 20000 in
theorem b_96i1_0 {d nS : Nat} {M : am_M} {Q : Option Value → am_H → Prop} : am_Wp d 96 0 [.ref 17, .ref 101, .retAddr 0, .retAddr 0, .retAddr 0, .retAddr 0] [] (hp nS M) Q = am_Wp d 96 2 [.ref 17, .ref 101, .int 0, .retAddr 0, .retAddr 0, .retAddr 0] [] (hp nS M) Q := by
  exact eq_run 2 (q := (2, [.ref 17, .ref 101, .int 0, .retAddr 0, .retAddr 0, .retAddr 0], [], hp nS M)) (by with_unfolding_all rfl)
set_option maxRecDepth 20000 in
theorem b_96i1_2 {d nS : Nat} {x2 : Int32} {zx3 zx4 zx5 : Value} {M : am_M} {Q : Option Value → am_H → Prop} : am_Wp d 96 2 [.ref 17, .ref 101, .int x2, zx3, zx4, zx5] [] (hp nS M) Q = if (M 39 1) ≤ x2 then am_Wp d 96 151 [.ref 17, .ref 101, .int x2, zx3, zx4, zx5] [] (hp nS M) Q else am_Wp d 96 13 [.ref 17, .ref 101, .int x2, zx3, zx4, zx5] [] (hp nS M) Q := by
  refine (eq_run 4 (q := (10, [.ref 17, .ref 101, .int x2, zx3, zx4, zx5], [.int (M 39 1), .int x2], hp nS M)) (by with_unfolding_all rfl)).trans ?_
  exact eq_cmp_ge (by with_unfolding_all rfl)
set_option maxRecDepth 20000 in
theorem b_96i1_13 {d nS : Nat} {x2 : Int32} {zx3 zx4 zx5 : Value} {M : am_M} {Q : Option Value → am_H → Prop} : am_Wp (d + 1) 96 13 [.ref 17, .ref 101, .int x2, zx3, zx4, zx5] [] (hp nS M) Q = am_Wp d 33 0 [.ref 39, .int x2, .int 1] [] (hp nS M) (fun v h1 => am_Wp (d + 1) 96 22 [.ref 17, .ref 101, .int x2, zx3, zx4, zx5] (am_ans v []) h1 Q) := by
  refine (eq_run 4 (q := (19, [.ref 17, .ref 101, .int x2, zx3, zx4, zx5], [.int 1, .int x2, .ref 39], hp nS M)) (by with_unfolding_all rfl)).trans ?_
  exact eq_call2 (e := (.invokevirtual 106, 3, 0, 33, 166)) (as := [.ref 39, .int x2, .int 1]) (r := []) (n := 3) (m := 3) (by with_unfolding_all rfl) rfl (by decide) (by with_unfolding_all rfl) (by decide) (by with_unfolding_all rfl) ⟨fun _ => am_rec_ok (c := 6) (by with_unfolding_all rfl) (by decide +kernel), fun z => by simp at z⟩
set_option maxRecDepth 20000 in
theorem b_96i1_22 {d nS : Nat} {x2 s0 : Int32} {zx3 zx4 zx5 : Value} {M : am_M} {Q : Option Value → am_H → Prop} : am_Wp (d + 1) 96 22 [.ref 17, .ref 101, .int x2, zx3, zx4, zx5] [.int s0] (hp nS M) Q = am_Wp d 33 0 [.ref 39, .int x2, .int 2] [] (hp nS M) (fun v h1 => am_Wp (d + 1) 96 32 [.ref 17, .ref 101, .int x2, .int s0, zx4, zx5] (am_ans v []) h1 Q) := by
  refine (eq_run 5 (q := (29, [.ref 17, .ref 101, .int x2, .int s0, zx4, zx5], [.int 2, .int x2, .ref 39], hp nS M)) (by with_unfolding_all rfl)).trans ?_
  exact eq_call2 (e := (.invokevirtual 106, 3, 0, 33, 166)) (as := [.ref 39, .int x2, .int 2]) (r := []) (n := 3) (m := 3) (by with_unfolding_all rfl) rfl (by decide) (by with_unfolding_all rfl) (by decide) (by with_unfolding_all rfl) ⟨fun _ => am_rec_ok (c := 6) (by with_unfolding_all rfl) (by decide +kernel), fun z => by simp at z⟩
set_option maxRecDepth 20000 in
theorem b_96i1_32 {d nS : Nat} {x2 x3 s0 : Int32} {zx4 zx5 : Value} {M : am_M} {Q : Option Value → am_H → Prop} : am_Wp (d + 1) 96 32 [.ref 17, .ref 101, .int x2, .int x3, zx4, zx5] [.int s0] (hp nS M) Q = am_Wp d 33 0 [.ref 39, .int x2, .int 3] [] (hp nS M) (fun v h1 => am_Wp (d + 1) 96 43 [.ref 17, .ref 101, .int x2, .int x3, .int s0, zx5] (am_ans v []) h1 Q) := by
  refine (eq_run 5 (q := (40, [.ref 17, .ref 101, .int x2, .int x3, .int s0, zx5], [.int 3, .int x2, .ref 39], hp nS M)) (by with_unfolding_all rfl)).trans ?_
  exact eq_call2 (e := (.invokevirtual 106, 3, 0, 33, 166)) (as := [.ref 39, .int x2, .int 3]) (r := []) (n := 3) (m := 3) (by with_unfolding_all rfl) rfl (by decide) (by with_unfolding_all rfl) (by decide) (by with_unfolding_all rfl) ⟨fun _ => am_rec_ok (c := 6) (by with_unfolding_all rfl) (by decide +kernel), fun z => by simp at z⟩
set_option maxRecDepth 20000 in
theorem b_96i1_43 {d nS : Nat} {x2 x3 x4 s0 : Int32} {zx5 : Value} {M : am_M} {Q : Option Value → am_H → Prop} : am_Wp (d + 1) 96 43 [.ref 17, .ref 101, .int x2, .int x3, .int x4, zx5] [.int s0] (hp nS M) Q = am_Wp d 33 0 [.ref 39, .int x2, .int 0] [] (hp nS M) (fun v h1 => am_Wp (d + 1) 96 54 [.ref 17, .ref 101, .int x2, .int x3, .int x4, .int s0] (am_ans v []) h1 Q) := by
  refine (eq_run 5 (q := (51, [.ref 17, .ref 101, .int x2, .int x3, .int x4, .int s0], [.int 0, .int x2, .ref 39], hp nS M)) (by with_unfolding_all rfl)).trans ?_
  exact eq_call2 (e := (.invokevirtual 106, 3, 0, 33, 166)) (as := [.ref 39, .int x2, .int 0]) (r := []) (n := 3) (m := 3) (by with_unfolding_all rfl) rfl (by decide) (by with_unfolding_all rfl) (by decide) (by with_unfolding_all rfl) ⟨fun _ => am_rec_ok (c := 6) (by with_unfolding_all rfl) (by decide +kernel), fun z => by simp at z⟩
set_option maxRecDepth 20000 in
theorem b_96i1_54 {d nS : Nat} {x2 x3 x4 x5 s0 : Int32} {M : am_M} {Q : Option Value → am_H → Prop} : am_Wp d 96 54 [.ref 17, .ref 101, .int x2, .int x3, .int x4, .int x5] [.int s0] (hp nS M) Q = if s0 = (M 101 4) then am_Wp d 96 64 [.ref 17, .ref 101, .int x2, .int x3, .int x4, .int x5] [] (hp nS M) Q else am_Wp d 96 61 [.ref 17, .ref 101, .int x2, .int x3, .int x4, .int x5] [] (hp nS M) Q := by
  refine (eq_run 2 (q := (58, [.ref 17, .ref 101, .int x2, .int x3, .int x4, .int x5], [.int (M 101 4), .int s0], hp nS M)) (by with_unfolding_all rfl)).trans ?_
  exact eq_cmp_eq (by with_unfolding_all rfl)
set_option maxRecDepth 20000 in
theorem b_96i1_61 {d nS : Nat} {x2 x3 x4 x5 : Int32} {M : am_M} {Q : Option Value → am_H → Prop} : am_Wp d 96 61 [.ref 17, .ref 101, .int x2, .int x3, .int x4, .int x5] [] (hp nS M) Q = am_Wp d 96 145 [.ref 17, .ref 101, .int x2, .int x3, .int x4, .int x5] [] (hp nS M) Q := by
  exact eq_run 1 (q := (145, [.ref 17, .ref 101, .int x2, .int x3, .int x4, .int x5], [], hp nS M)) (by with_unfolding_all rfl)
set_option maxRecDepth 20000 in
theorem b_96i1_64 {d nS : Nat} {x2 x3 x4 x5 : Int32} {M : am_M} {Q : Option Value → am_H → Prop} : am_Wp d 96 64 [.ref 17, .ref 101, .int x2, .int x3, .int x4, .int x5] [] (hp nS M) Q = if ¬ x3 = 11 then am_Wp d 96 79 [.ref 17, .ref 101, .int x2, .int x3, .int x4, .int x5] [] (hp nS M) Q else am_Wp d 96 70 [.ref 17, .ref 101, .int x2, .int x3, .int x4, .int x5] [] (hp nS M) Q := by
  refine (eq_run 2 (q := (67, [.ref 17, .ref 101, .int x2, .int x3, .int x4, .int x5], [.int 11, .int x3], hp nS M)) (by with_unfolding_all rfl)).trans ?_
  exact eq_cmp_ne (by with_unfolding_all rfl)
set_option maxRecDepth 20000 in
theorem b_96i1_70 {d nS : Nat} {x2 x3 x4 x5 : Int32} {M : am_M} {Q : Option Value → am_H → Prop} : am_Wp d 96 70 [.ref 17, .ref 101, .int x2, .int x3, .int x4, .int x5] [] (hp nS M) Q = am_Wp d 96 145 [.ref 17, .ref 101, .int x2, .int x3, .int x4, .int x5] [] (hp nS (am_up M 101 3 x5)) Q := by
  exact eq_run 4 (q := (145, [.ref 17, .ref 101, .int x2, .int x3, .int x4, .int x5], [], hp nS (am_up M 101 3 x5))) (by with_unfolding_all rfl)
set_option maxRecDepth 20000 in
theorem b_96i1_79 {d nS : Nat} {x2 x3 x4 x5 : Int32} {M : am_M} {Q : Option Value → am_H → Prop} : am_Wp (d + 1) 96 79 [.ref 17, .ref 101, .int x2, .int x3, .int x4, .int x5] [] (hp nS M) Q = am_Wp d 104 0 [.ref 101, .int x4] [] (hp nS M) (fun v h1 => am_Wp (d + 1) 96 85 [.ref 17, .ref 101, .int x2, .int x3, .int x4, .int x5] (am_ans v []) h1 Q) := by
  refine (eq_run 2 (q := (82, [.ref 17, .ref 101, .int x2, .int x3, .int x4, .int x5], [.int x4, .ref 101], hp nS M)) (by with_unfolding_all rfl)).trans ?_
  exact eq_call2 (e := (.invokevirtual 124, 3, 0, 104, 169)) (as := [.ref 101, .int x4]) (r := []) (n := 2) (m := 2) (by with_unfolding_all rfl) rfl (by decide) (by with_unfolding_all rfl) (by decide) (by with_unfolding_all rfl) ⟨fun _ => am_rec_ok (c := 12) (by with_unfolding_all rfl) (by decide +kernel), fun z => by simp at z⟩
set_option maxRecDepth 20000 in
theorem b_96i1_85 {d nS : Nat} {x2 x3 x4 x5 s0 : Int32} {M : am_M} {Q : Option Value → am_H → Prop} : am_Wp d 96 85 [.ref 17, .ref 101, .int x2, .int x3, .int x4, .int x5] [.int s0] (hp nS M) Q = if ¬ s0 = 0 then am_Wp d 96 91 [.ref 17, .ref 101, .int x2, .int x3, .int x4, .int x5] [] (hp nS M) Q else am_Wp d 96 88 [.ref 17, .ref 101, .int x2, .int x3, .int x4, .int x5] [] (hp nS M) Q := by
  exact eq_if_ne (by with_unfolding_all rfl)
set_option maxRecDepth 20000 in
theorem b_96i1_88 {d nS : Nat} {x2 x3 x4 x5 : Int32} {M : am_M} {Q : Option Value → am_H → Prop} : am_Wp d 96 88 [.ref 17, .ref 101, .int x2, .int x3, .int x4, .int x5] [] (hp nS M) Q = am_Wp d 96 145 [.ref 17, .ref 101, .int x2, .int x3, .int x4, .int x5] [] (hp nS M) Q := by
  exact eq_run 1 (q := (145, [.ref 17, .ref 101, .int x2, .int x3, .int x4, .int x5], [], hp nS M)) (by with_unfolding_all rfl)
set_option maxRecDepth 20000 in
theorem b_96i1_91 {d nS : Nat} {x2 x3 x4 x5 : Int32} {M : am_M} {Q : Option Value → am_H → Prop} : am_Wp d 96 91 [.ref 17, .ref 101, .int x2, .int x3, .int x4, .int x5] [] (hp nS M) Q = if ¬ x3 = 17 then am_Wp d 96 122 [.ref 17, .ref 101, .int x2, .int x3, .int x4, .int x5] [] (hp nS M) Q else am_Wp d 96 97 [.ref 17, .ref 101, .int x2, .int x3, .int x4, .int x5] [] (hp nS M) Q := by
  refine (eq_run 2 (q := (94, [.ref 17, .ref 101, .int x2, .int x3, .int x4, .int x5], [.int 17, .int x3], hp nS M)) (by with_unfolding_all rfl)).trans ?_
  exact eq_cmp_ne (by with_unfolding_all rfl)
set_option maxRecDepth 20000 in
theorem b_96i1_97 {d nS : Nat} {x2 x3 x4 x5 : Int32} {M : am_M} {Q : Option Value → am_H → Prop} (h1 : vp_in x4 6) : am_Wp (d + 1) 96 97 [.ref 17, .ref 101, .int x2, .int x3, .int x4, .int x5] [] (hp nS M) Q = am_Wp d 296 0 [.int 9, .int ((M 106 x4.toNatClampNeg) + x5)] [] (hp nS M) (fun v h1 => am_Wp (d + 1) 96 118 [.ref 17, .ref 101, .int x2, .int x3, .int x4, .int x5] (am_ans v [.int x4, .ref 106]) h1 Q) := by
  refine (eq_run 7 (q := (111, [.ref 17, .ref 101, .int x2, .int x3, .int x4, .int x5], [.int x4, .ref 106, .int 9, .int x4, .ref 106], hp nS M)) (by with_unfolding_all rfl)).trans ?_
  refine (eq_ald (e := (.iaload, 1, 0, 0, 0)) (by with_unfolding_all rfl) rfl (n := 6) (by with_unfolding_all rfl) h1).trans ?_
  refine (eq_run 2 (q := (115, [.ref 17, .ref 101, .int x2, .int x3, .int x4, .int x5], [.int ((M 106 x4.toNatClampNeg) + x5), .int 9, .int x4, .ref 106], hp nS M)) (by with_unfolding_all rfl)).trans ?_
  exact eq_call2 (e := (.invokestatic 131, 3, 1, 296, 170)) (as := [.int 9, .int ((M 106 x4.toNatClampNeg) + x5)]) (r := [.int x4, .ref 106]) (n := 2) (m := 2) (by with_unfolding_all rfl) rfl (by decide) (by with_unfolding_all rfl) (by decide) (by with_unfolding_all rfl) ⟨fun z => absurd z (by decide), fun z => by simp at z⟩
set_option maxRecDepth 20000 in
theorem b_96i1_118 {d nS : Nat} {x2 x3 x4 x5 s1 s2 : Int32} {M : am_M} {Q : Option Value → am_H → Prop} (h1 : vp_in s1 6) : am_Wp d 96 118 [.ref 17, .ref 101, .int x2, .int x3, .int x4, .int x5] [.int s2, .int s1, .ref 106] (hp nS M) Q = am_Wp d 96 145 [.ref 17, .ref 101, .int x2, .int x3, .int x4, .int x5] [] (hp nS (am_up M 106 s1.toNatClampNeg s2)) Q := by
  refine (eq_ast (e := (.iastore, 1, 0, 0, 0)) (by with_unfolding_all rfl) rfl (n := 6) (by with_unfolding_all rfl) (by decide) h1).trans ?_
  exact eq_run 1 (q := (145, [.ref 17, .ref 101, .int x2, .int x3, .int x4, .int x5], [], hp nS (am_up M 106 s1.toNatClampNeg s2))) (by with_unfolding_all rfl)
set_option maxRecDepth 20000 in
theorem b_96i1_122 {d nS : Nat} {x2 x3 x4 x5 : Int32} {M : am_M} {Q : Option Value → am_H → Prop} : am_Wp d 96 122 [.ref 17, .ref 101, .int x2, .int x3, .int x4, .int x5] [] (hp nS M) Q = if ¬ x3 = 18 then am_Wp d 96 139 [.ref 17, .ref 101, .int x2, .int x3, .int x4, .int x5] [] (hp nS M) Q else am_Wp d 96 128 [.ref 17, .ref 101, .int x2, .int x3, .int x4, .int x5] [] (hp nS M) Q := by
  refine (eq_run 2 (q := (125, [.ref 17, .ref 101, .int x2, .int x3, .int x4, .int x5], [.int 18, .int x3], hp nS M)) (by with_unfolding_all rfl)).trans ?_
  exact eq_cmp_ne (by with_unfolding_all rfl)
set_option maxRecDepth 20000 in
theorem b_96i1_128 {d nS : Nat} {x2 x3 x4 x5 : Int32} {M : am_M} {Q : Option Value → am_H → Prop} (h1 : vp_in x4 6) : am_Wp d 96 128 [.ref 17, .ref 101, .int x2, .int x3, .int x4, .int x5] [] (hp nS M) Q = am_Wp d 96 145 [.ref 17, .ref 101, .int x2, .int x3, .int x4, .int x5] [] (hp nS (am_up M 106 x4.toNatClampNeg 0)) Q := by
  refine (eq_run 4 (q := (135, [.ref 17, .ref 101, .int x2, .int x3, .int x4, .int x5], [.int 0, .int x4, .ref 106], hp nS M)) (by with_unfolding_all rfl)).trans ?_
  refine (eq_ast (e := (.iastore, 1, 0, 0, 0)) (by with_unfolding_all rfl) rfl (n := 6) (by with_unfolding_all rfl) (by decide) h1).trans ?_
  exact eq_run 1 (q := (145, [.ref 17, .ref 101, .int x2, .int x3, .int x4, .int x5], [], hp nS (am_up M 106 x4.toNatClampNeg 0))) (by with_unfolding_all rfl)
set_option maxRecDepth 20000 in
theorem b_96i1_139 {d nS : Nat} {x2 x3 x4 x5 : Int32} {M : am_M} {Q : Option Value → am_H → Prop} : am_Wp (d + 1) 96 139 [.ref 17, .ref 101, .int x2, .int x3, .int x4, .int x5] [] (hp nS M) Q = am_Wp d 113 0 [.ref 101, .int x4] [] (hp nS M) (fun v h1 => am_Wp (d + 1) 96 145 [.ref 17, .ref 101, .int x2, .int x3, .int x4, .int x5] (am_ans v []) h1 Q) := by
  refine (eq_run 2 (q := (142, [.ref 17, .ref 101, .int x2, .int x3, .int x4, .int x5], [.int x4, .ref 101], hp nS M)) (by with_unfolding_all rfl)).trans ?_
  exact eq_call2 (e := (.invokevirtual 136, 3, 0, 113, 171)) (as := [.ref 101, .int x4]) (r := []) (n := 2) (m := 2) (by with_unfolding_all rfl) rfl (by decide) (by with_unfolding_all rfl) (by decide) (by with_unfolding_all rfl) ⟨fun _ => am_rec_ok (c := 12) (by with_unfolding_all rfl) (by decide +kernel), fun z => by simp at z⟩
set_option maxRecDepth 20000 in
theorem b_96i1_145 {d nS : Nat} {x2 x3 x4 x5 : Int32} {M : am_M} {Q : Option Value → am_H → Prop} : am_Wp d 96 145 [.ref 17, .ref 101, .int x2, .int x3, .int x4, .int x5] [] (hp nS M) Q = am_Wp d 96 2 [.ref 17, .ref 101, .int (x2 + 1), .int x3, .int x4, .int x5] [] (hp nS M) Q := by
  exact eq_run 2 (q := (2, [.ref 17, .ref 101, .int (x2 + 1), .int x3, .int x4, .int x5], [], hp nS M)) (by with_unfolding_all rfl)
set_option maxRecDepth 20000 in
theorem b_96i1_151 {d nS : Nat} {x2 : Int32} {zx3 zx4 zx5 : Value} {M : am_M} {Q : Option Value → am_H → Prop} : am_Wp d 96 151 [.ref 17, .ref 101, .int x2, zx3, zx4, zx5] [] (hp nS M) Q = Q none (hp nS M) := by
  exact eq_retV2 (e := (.return_, 1, 0, 0, 0)) (by with_unfolding_all rfl) rfl (by with_unfolding_all rfl)
-- LarkExchange$Town sings(LLarkExchange$World;IZ)Z (97, (17, 18, None, None))
set_option maxRecDepth 20000 in
theorem b_97_0 {d nS : Nat} {x2 x3 : Int32} {M : am_M} {Q : Option Value → am_H → Prop} (h1 : vp_in x2 6) : am_Wp d 97 0 [.ref 17, .ref 18, .int x2, .int x3, .retAddr 0, .retAddr 0, .retAddr 0] [] (hp nS M) Q = am_Wp d 97 13 [.ref 17, .ref 18, .int x2, .int x3, .int 0, .int 0, .retAddr 0] [] (hp nS (am_up M 20 x2.toNatClampNeg 0)) Q := by
  refine (eq_run 6 (q := (9, [.ref 17, .ref 18, .int x2, .int x3, .int 0, .retAddr 0, .retAddr 0], [.int 0, .int x2, .ref 20], hp nS M)) (by with_unfolding_all rfl)).trans ?_
  refine (eq_ast (e := (.iastore, 1, 0, 0, 0)) (by with_unfolding_all rfl) rfl (n := 6) (by with_unfolding_all rfl) (by decide) h1).trans ?_
  exact eq_run 2 (q := (13, [.ref 17, .ref 18, .int x2, .int x3, .int 0, .int 0, .retAddr 0], [], hp nS (am_up M 20 x2.toNatClampNeg 0))) (by with_unfolding_all rfl)
set_option maxRecDepth 20000 in
theorem b_97_13 {d nS : Nat} {x2 x3 x4 x5 : Int32} {zx6 : Value} {M : am_M} {Q : Option Value → am_H → Prop} : am_Wp d 97 13 [.ref 17, .ref 18, .int x2, .int x3, .int x4, .int x5, zx6] [] (hp nS M) Q = if 30 ≤ x5 then am_Wp d 97 108 [.ref 17, .ref 18, .int x2, .int x3, .int x4, .int x5, zx6] [] (hp nS M) Q else am_Wp d 97 20 [.ref 17, .ref 18, .int x2, .int x3, .int x4, .int x5, zx6] [] (hp nS M) Q := by
  refine (eq_run 2 (q := (17, [.ref 17, .ref 18, .int x2, .int x3, .int x4, .int x5, zx6], [.int 30, .int x5], hp nS M)) (by with_unfolding_all rfl)).trans ?_
  exact eq_cmp_ge (by with_unfolding_all rfl)
set_option maxRecDepth 20000 in
theorem b_97_20 {d nS : Nat} {x2 x3 x4 x5 : Int32} {zx6 : Value} {M : am_M} {Q : Option Value → am_H → Prop} : am_Wp d 97 20 [.ref 17, .ref 18, .int x2, .int x3, .int x4, .int x5, zx6] [] (hp nS M) Q = if ¬ x4 = 0 then am_Wp d 97 108 [.ref 17, .ref 18, .int x2, .int x3, .int x4, .int x5, zx6] [] (hp nS M) Q else am_Wp d 97 25 [.ref 17, .ref 18, .int x2, .int x3, .int x4, .int x5, zx6] [] (hp nS M) Q := by
  refine (eq_run 1 (q := (22, [.ref 17, .ref 18, .int x2, .int x3, .int x4, .int x5, zx6], [.int x4], hp nS M)) (by with_unfolding_all rfl)).trans ?_
  exact eq_if_ne (by with_unfolding_all rfl)
set_option maxRecDepth 20000 in
theorem b_97_25 {d nS : Nat} {x2 x3 x4 x5 : Int32} {zx6 : Value} {M : am_M} {Q : Option Value → am_H → Prop} : am_Wp (d + 1) 97 25 [.ref 17, .ref 18, .int x2, .int x3, .int x4, .int x5, zx6] [] (hp nS M) Q = am_Wp d 20 0 [.ref 31, .int 0, .ref 18, .int x2, .int (-1), .int x5, .retAddr 0, .retAddr 0] [] (hp nS M) (fun v h1 => am_Wp (d + 1) 97 40 [.ref 17, .ref 18, .int x2, .int x3, .int x4, .int x5, zx6] (am_ans v [.int x2, .ref 18]) h1 Q) := by
  refine (eq_run 9 (q := (37, [.ref 17, .ref 18, .int x2, .int x3, .int x4, .int x5, zx6], [.int x5, .int (-1), .int x2, .ref 18, .int 0, .ref 31, .int x2, .ref 18], hp nS M)) (by with_unfolding_all rfl)).trans ?_
  exact eq_call2 (e := (.invokevirtual 143, 3, 0, 20, 172)) (as := [.ref 31, .int 0, .ref 18, .int x2, .int (-1), .int x5]) (r := [.int x2, .ref 18]) (n := 6) (m := 8) (by with_unfolding_all rfl) rfl (by decide) (by with_unfolding_all rfl) (by decide) (by with_unfolding_all rfl) ⟨fun _ => am_rec_ok (c := 5) (by with_unfolding_all rfl) (by decide +kernel), fun z => by simp at z⟩
set_option maxRecDepth 20000 in
theorem b_97_40 {d nS : Nat} {x2 x3 x4 x5 s1 s2 : Int32} {zx6 : Value} {M : am_M} {Q : Option Value → am_H → Prop} : am_Wp (d + 1) 97 40 [.ref 17, .ref 18, .int x2, .int x3, .int x4, .int x5, zx6] [.int s2, .int s1, .ref 18] (hp nS M) Q = am_Wp d 114 0 [.ref 18, .int s1, .int s2] [] (hp nS M) (fun v h1 => am_Wp (d + 1) 97 43 [.ref 17, .ref 18, .int x2, .int x3, .int x4, .int x5, zx6] (am_ans v []) h1 Q) := by
  exact eq_call2 (e := (.invokevirtual 147, 3, 0, 114, 173)) (as := [.ref 18, .int s1, .int s2]) (r := []) (n := 3) (m := 3) (by with_unfolding_all rfl) rfl (by decide) (by with_unfolding_all rfl) (by decide) (by with_unfolding_all rfl) ⟨fun _ => am_rec_ok (c := 12) (by with_unfolding_all rfl) (by decide +kernel), fun z => by simp at z⟩
set_option maxRecDepth 20000 in
theorem b_97_43 {d nS : Nat} {x2 x3 x4 x5 : Int32} {zx6 : Value} {M : am_M} {Q : Option Value → am_H → Prop} : am_Wp (d + 1) 97 43 [.ref 17, .ref 18, .int x2, .int x3, .int x4, .int x5, zx6] [] (hp nS M) Q = am_Wp d 20 0 [.ref 31, .int 1, .ref 18, .int x2, .int (-1), .int x5, .retAddr 0, .retAddr 0] [] (hp nS M) (fun v h1 => am_Wp (d + 1) 97 56 [.ref 17, .ref 18, .int x2, .int x3, .int x4, .int x5, zx6] (am_ans v []) h1 Q) := by
  refine (eq_run 7 (q := (53, [.ref 17, .ref 18, .int x2, .int x3, .int x4, .int x5, zx6], [.int x5, .int (-1), .int x2, .ref 18, .int 1, .ref 31], hp nS M)) (by with_unfolding_all rfl)).trans ?_
  exact eq_call2 (e := (.invokevirtual 143, 3, 0, 20, 172)) (as := [.ref 31, .int 1, .ref 18, .int x2, .int (-1), .int x5]) (r := []) (n := 6) (m := 8) (by with_unfolding_all rfl) rfl (by decide) (by with_unfolding_all rfl) (by decide) (by with_unfolding_all rfl) ⟨fun _ => am_rec_ok (c := 5) (by with_unfolding_all rfl) (by decide +kernel), fun z => by simp at z⟩
set_option maxRecDepth 20000 in
theorem b_97_56 {d nS : Nat} {x2 x3 x4 x5 s0 : Int32} {zx6 : Value} {M : am_M} {Q : Option Value → am_H → Prop} : am_Wp d 97 56 [.ref 17, .ref 18, .int x2, .int x3, .int x4, .int x5, zx6] [.int s0] (hp nS M) Q = if x3 = 0 then am_Wp d 97 87 [.ref 17, .ref 18, .int x2, .int x3, .int x4, .int x5, .int s0] [] (hp nS M) Q else am_Wp d 97 62 [.ref 17, .ref 18, .int x2, .int x3, .int x4, .int x5, .int s0] [] (hp nS M) Q := by
  refine (eq_run 2 (q := (59, [.ref 17, .ref 18, .int x2, .int x3, .int x4, .int x5, .int s0], [.int x3], hp nS M)) (by with_unfolding_all rfl)).trans ?_
  exact eq_if_eq (by with_unfolding_all rfl)
set_option maxRecDepth 20000 in
theorem b_97_62 {d nS : Nat} {x2 x3 x4 x5 x6 : Int32} {M : am_M} {Q : Option Value → am_H → Prop} : am_Wp d 97 62 [.ref 17, .ref 18, .int x2, .int x3, .int x4, .int x5, .int x6] [] (hp nS M) Q = if x6 ≤ 0 then am_Wp d 97 83 [.ref 17, .ref 18, .int x2, .int x3, .int x4, .int x5, .int x6] [] (hp nS M) Q else am_Wp d 97 67 [.ref 17, .ref 18, .int x2, .int x3, .int x4, .int x5, .int x6] [] (hp nS M) Q := by
  refine (eq_run 1 (q := (64, [.ref 17, .ref 18, .int x2, .int x3, .int x4, .int x5, .int x6], [.int x6], hp nS M)) (by with_unfolding_all rfl)).trans ?_
  exact eq_if_le (by with_unfolding_all rfl)
set_option maxRecDepth 20000 in
theorem b_97_67 {d nS : Nat} {x2 x3 x4 x5 x6 : Int32} {M : am_M} {Q : Option Value → am_H → Prop} : am_Wp (d + 1) 97 67 [.ref 17, .ref 18, .int x2, .int x3, .int x4, .int x5, .int x6] [] (hp nS M) Q = am_Wp d 115 0 [.ref 18, .int 1000] [] (hp nS M) (fun v h1 => am_Wp (d + 1) 97 74 [.ref 17, .ref 18, .int x2, .int x3, .int x4, .int x5, .int x6] (am_ans v []) h1 Q) := by
  refine (eq_run 2 (q := (71, [.ref 17, .ref 18, .int x2, .int x3, .int x4, .int x5, .int x6], [.int 1000, .ref 18], hp nS M)) (by with_unfolding_all rfl)).trans ?_
  exact eq_call2 (e := (.invokevirtual 151, 3, 0, 115, 174)) (as := [.ref 18, .int 1000]) (r := []) (n := 2) (m := 2) (by with_unfolding_all rfl) rfl (by decide) (by with_unfolding_all rfl) (by decide) (by with_unfolding_all rfl) ⟨fun _ => am_rec_ok (c := 12) (by with_unfolding_all rfl) (by decide +kernel), fun z => by simp at z⟩
set_option maxRecDepth 20000 in
theorem b_97_74 {d nS : Nat} {x2 x3 x4 x5 x6 s0 : Int32} {M : am_M} {Q : Option Value → am_H → Prop} : am_Wp d 97 74 [.ref 17, .ref 18, .int x2, .int x3, .int x4, .int x5, .int x6] [.int s0] (hp nS M) Q = if x6 ≤ s0 then am_Wp d 97 83 [.ref 17, .ref 18, .int x2, .int x3, .int x4, .int x5, .int x6] [] (hp nS M) Q else am_Wp d 97 79 [.ref 17, .ref 18, .int x2, .int x3, .int x4, .int x5, .int x6] [] (hp nS M) Q := by
  refine (eq_run 1 (q := (76, [.ref 17, .ref 18, .int x2, .int x3, .int x4, .int x5, .int x6], [.int x6, .int s0], hp nS M)) (by with_unfolding_all rfl)).trans ?_
  exact eq_cmp_ge (by with_unfolding_all rfl)
set_option maxRecDepth 20000 in
theorem b_97_79 {d nS : Nat} {x2 x3 x4 x5 x6 : Int32} {M : am_M} {Q : Option Value → am_H → Prop} : am_Wp d 97 79 [.ref 17, .ref 18, .int x2, .int x3, .int x4, .int x5, .int x6] [] (hp nS M) Q = am_Wp d 97 100 [.ref 17, .ref 18, .int x2, .int x3, .int x4, .int x5, .int x6] [.int 1] (hp nS M) Q := by
  exact eq_run 2 (q := (100, [.ref 17, .ref 18, .int x2, .int x3, .int x4, .int x5, .int x6], [.int 1], hp nS M)) (by with_unfolding_all rfl)
set_option maxRecDepth 20000 in
theorem b_97_83 {d nS : Nat} {x2 x3 x4 x5 x6 : Int32} {M : am_M} {Q : Option Value → am_H → Prop} : am_Wp d 97 83 [.ref 17, .ref 18, .int x2, .int x3, .int x4, .int x5, .int x6] [] (hp nS M) Q = am_Wp d 97 100 [.ref 17, .ref 18, .int x2, .int x3, .int x4, .int x5, .int x6] [.int 0] (hp nS M) Q := by
  exact eq_run 2 (q := (100, [.ref 17, .ref 18, .int x2, .int x3, .int x4, .int x5, .int x6], [.int 0], hp nS M)) (by with_unfolding_all rfl)
set_option maxRecDepth 20000 in
theorem b_97_87 {d nS : Nat} {x2 x3 x4 x5 x6 : Int32} {M : am_M} {Q : Option Value → am_H → Prop} : am_Wp d 97 87 [.ref 17, .ref 18, .int x2, .int x3, .int x4, .int x5, .int x6] [] (hp nS M) Q = if x6 < 500 then am_Wp d 97 99 [.ref 17, .ref 18, .int x2, .int x3, .int x4, .int x5, .int x6] [] (hp nS M) Q else am_Wp d 97 95 [.ref 17, .ref 18, .int x2, .int x3, .int x4, .int x5, .int x6] [] (hp nS M) Q := by
  refine (eq_run 2 (q := (92, [.ref 17, .ref 18, .int x2, .int x3, .int x4, .int x5, .int x6], [.int 500, .int x6], hp nS M)) (by with_unfolding_all rfl)).trans ?_
  exact eq_cmp_lt (by with_unfolding_all rfl)
set_option maxRecDepth 20000 in
theorem b_97_95 {d nS : Nat} {x2 x3 x4 x5 x6 : Int32} {M : am_M} {Q : Option Value → am_H → Prop} : am_Wp d 97 95 [.ref 17, .ref 18, .int x2, .int x3, .int x4, .int x5, .int x6] [] (hp nS M) Q = am_Wp d 97 100 [.ref 17, .ref 18, .int x2, .int x3, .int x4, .int x5, .int x6] [.int 1] (hp nS M) Q := by
  exact eq_run 2 (q := (100, [.ref 17, .ref 18, .int x2, .int x3, .int x4, .int x5, .int x6], [.int 1], hp nS M)) (by with_unfolding_all rfl)
set_option maxRecDepth 20000 in
theorem b_97_99 {d nS : Nat} {x2 x3 x4 x5 x6 : Int32} {M : am_M} {Q : Option Value → am_H → Prop} : am_Wp d 97 99 [.ref 17, .ref 18, .int x2, .int x3, .int x4, .int x5, .int x6] [] (hp nS M) Q = am_Wp d 97 100 [.ref 17, .ref 18, .int x2, .int x3, .int x4, .int x5, .int x6] [.int 0] (hp nS M) Q := by
  exact eq_run 1 (q := (100, [.ref 17, .ref 18, .int x2, .int x3, .int x4, .int x5, .int x6], [.int 0], hp nS M)) (by with_unfolding_all rfl)
set_option maxRecDepth 20000 in
theorem b_97_100 {d nS : Nat} {x2 x3 x4 x5 x6 s0 : Int32} {M : am_M} {Q : Option Value → am_H → Prop} : am_Wp d 97 100 [.ref 17, .ref 18, .int x2, .int x3, .int x4, .int x5, .int x6] [.int s0] (hp nS M) Q = am_Wp d 97 13 [.ref 17, .ref 18, .int x2, .int x3, .int s0, .int (x5 + 1), .int x6] [] (hp nS M) Q := by
  exact eq_run 3 (q := (13, [.ref 17, .ref 18, .int x2, .int x3, .int s0, .int (x5 + 1), .int x6], [], hp nS M)) (by with_unfolding_all rfl)
set_option maxRecDepth 20000 in
theorem b_97_108 {d nS : Nat} {x2 x3 x4 x5 : Int32} {zx6 : Value} {M : am_M} {Q : Option Value → am_H → Prop} : am_Wp d 97 108 [.ref 17, .ref 18, .int x2, .int x3, .int x4, .int x5, zx6] [] (hp nS M) Q = if x4 = 0 then am_Wp d 97 130 [.ref 17, .ref 18, .int x2, .int x3, .int x4, .int x5, zx6] [] (hp nS M) Q else am_Wp d 97 113 [.ref 17, .ref 18, .int x2, .int x3, .int x4, .int x5, zx6] [] (hp nS M) Q := by
  refine (eq_run 1 (q := (110, [.ref 17, .ref 18, .int x2, .int x3, .int x4, .int x5, zx6], [.int x4], hp nS M)) (by with_unfolding_all rfl)).trans ?_
  exact eq_if_eq (by with_unfolding_all rfl)
set_option maxRecDepth 20000 in
theorem b_97_113 {d nS : Nat} {x2 x3 x4 x5 : Int32} {zx6 : Value} {M : am_M} {Q : Option Value → am_H → Prop} (h1 : vp_in x2 6) : am_Wp (d + 1) 97 113 [.ref 17, .ref 18, .int x2, .int x3, .int x4, .int x5, zx6] [] (hp nS M) Q = am_Wp d 93 0 [.ref 17, .ref 18, .int 0, .int x2, .int (M 20 x2.toNatClampNeg), .int x3, .retAddr 0] [] (hp nS M) (fun v h1 => am_Wp (d + 1) 97 127 [.ref 17, .ref 18, .int x2, .int x3, .int x4, .int x5, zx6] (am_ans v []) h1 Q) := by
  refine (eq_run 7 (q := (122, [.ref 17, .ref 18, .int x2, .int x3, .int x4, .int x5, zx6], [.int x2, .ref 20, .int x2, .int 0, .ref 18, .ref 17], hp nS M)) (by with_unfolding_all rfl)).trans ?_
  refine (eq_ald (e := (.iaload, 1, 0, 0, 0)) (by with_unfolding_all rfl) rfl (n := 6) (by with_unfolding_all rfl) h1).trans ?_
  refine (eq_run 1 (q := (124, [.ref 17, .ref 18, .int x2, .int x3, .int x4, .int x5, zx6], [.int x3, .int (M 20 x2.toNatClampNeg), .int x2, .int 0, .ref 18, .ref 17], hp nS M)) (by with_unfolding_all rfl)).trans ?_
  exact eq_call2 (e := (.invokevirtual 155, 3, 0, 93, 175)) (as := [.ref 17, .ref 18, .int 0, .int x2, .int (M 20 x2.toNatClampNeg), .int x3]) (r := []) (n := 6) (m := 7) (by with_unfolding_all rfl) rfl (by decide) (by with_unfolding_all rfl) (by decide) (by with_unfolding_all rfl) ⟨fun _ => am_rec_ok (c := 11) (by with_unfolding_all rfl) (by decide +kernel), fun z => by simp at z⟩
set_option maxRecDepth 20000 in
theorem b_97_127 {d nS : Nat} {x2 x3 x4 x5 : Int32} {zx6 : Value} {M : am_M} {Q : Option Value → am_H → Prop} : am_Wp d 97 127 [.ref 17, .ref 18, .int x2, .int x3, .int x4, .int x5, zx6] [] (hp nS M) Q = am_Wp d 97 163 [.ref 17, .ref 18, .int x2, .int x3, .int x4, .int x5, zx6] [] (hp nS M) Q := by
  exact eq_run 1 (q := (163, [.ref 17, .ref 18, .int x2, .int x3, .int x4, .int x5, zx6], [], hp nS M)) (by with_unfolding_all rfl)
set_option maxRecDepth 20000 in
theorem b_97_130 {d nS : Nat} {x2 x3 x4 x5 : Int32} {zx6 : Value} {M : am_M} {Q : Option Value → am_H → Prop} (h1 : vp_in x2 6) : am_Wp d 97 130 [.ref 17, .ref 18, .int x2, .int x3, .int x4, .int x5, zx6] [] (hp nS M) Q = if (M 20 x2.toNatClampNeg) < 500 then am_Wp d 97 163 [.ref 17, .ref 18, .int x2, .int x3, .int x4, .int x5, zx6] [] (hp nS M) Q else am_Wp d 97 142 [.ref 17, .ref 18, .int x2, .int x3, .int x4, .int x5, zx6] [] (hp nS M) Q := by
  refine (eq_run 3 (q := (135, [.ref 17, .ref 18, .int x2, .int x3, .int x4, .int x5, zx6], [.int x2, .ref 20], hp nS M)) (by with_unfolding_all rfl)).trans ?_
  refine (eq_ald (e := (.iaload, 1, 0, 0, 0)) (by with_unfolding_all rfl) rfl (n := 6) (by with_unfolding_all rfl) h1).trans ?_
  refine (eq_run 1 (q := (139, [.ref 17, .ref 18, .int x2, .int x3, .int x4, .int x5, zx6], [.int 500, .int (M 20 x2.toNatClampNeg)], hp nS M)) (by with_unfolding_all rfl)).trans ?_
  exact eq_cmp_lt (by with_unfolding_all rfl)
set_option maxRecDepth 20000 in
theorem b_97_142 {d nS : Nat} {x2 x3 x4 x5 : Int32} {zx6 : Value} {M : am_M} {Q : Option Value → am_H → Prop} (h1 : vp_in x2 6) (h2 : vp_in x2 6) : am_Wp (d + 1) 97 142 [.ref 17, .ref 18, .int x2, .int x3, .int x4, .int x5, zx6] [] (hp nS M) Q = am_Wp d 93 0 [.ref 17, .ref 18, .int 1, .int x2, .int ((am_up M 22 x2.toNatClampNeg 1) 20 x2.toNatClampNeg), .int x3, .retAddr 0] [] (hp nS (am_up M 22 x2.toNatClampNeg 1)) (fun v h1 => am_Wp (d + 1) 97 163 [.ref 17, .ref 18, .int x2, .int x3, .int x4, .int x5, zx6] (am_ans v []) h1 Q) := by
  refine (eq_run 4 (q := (148, [.ref 17, .ref 18, .int x2, .int x3, .int x4, .int x5, zx6], [.int 1, .int x2, .ref 22], hp nS M)) (by with_unfolding_all rfl)).trans ?_
  refine (eq_ast (e := (.iastore, 1, 0, 0, 0)) (by with_unfolding_all rfl) rfl (n := 6) (by with_unfolding_all rfl) (by decide) h1).trans ?_
  refine (eq_run 7 (q := (158, [.ref 17, .ref 18, .int x2, .int x3, .int x4, .int x5, zx6], [.int x2, .ref 20, .int x2, .int 1, .ref 18, .ref 17], hp nS (am_up M 22 x2.toNatClampNeg 1))) (by with_unfolding_all rfl)).trans ?_
  refine (eq_ald (e := (.iaload, 1, 0, 0, 0)) (by with_unfolding_all rfl) rfl (n := 6) (by with_unfolding_all rfl) h2).trans ?_
  refine (eq_run 1 (q := (160, [.ref 17, .ref 18, .int x2, .int x3, .int x4, .int x5, zx6], [.int x3, .int ((am_up M 22 x2.toNatClampNeg 1) 20 x2.toNatClampNeg), .int x2, .int 1, .ref 18, .ref 17], hp nS (am_up M 22 x2.toNatClampNeg 1))) (by with_unfolding_all rfl)).trans ?_
  exact eq_call2 (e := (.invokevirtual 155, 3, 0, 93, 175)) (as := [.ref 17, .ref 18, .int 1, .int x2, .int ((am_up M 22 x2.toNatClampNeg 1) 20 x2.toNatClampNeg), .int x3]) (r := []) (n := 6) (m := 7) (by with_unfolding_all rfl) rfl (by decide) (by with_unfolding_all rfl) (by decide) (by with_unfolding_all rfl) ⟨fun _ => am_rec_ok (c := 11) (by with_unfolding_all rfl) (by decide +kernel), fun z => by simp at z⟩
set_option maxRecDepth 20000 in
theorem b_97_163 {d nS : Nat} {x2 x3 x4 x5 : Int32} {zx6 : Value} {M : am_M} {Q : Option Value → am_H → Prop} (h1 : vp_in x2 6) : am_Wp (d + 1) 97 163 [.ref 17, .ref 18, .int x2, .int x3, .int x4, .int x5, zx6] [] (hp nS M) Q = am_Wp d 297 0 [.int 0, .int ((M 23 x2.toNatClampNeg) - 1)] [] (hp nS M) (fun v h1 => am_Wp (d + 1) 97 180 [.ref 17, .ref 18, .int x2, .int x3, .int x4, .int x5, zx6] (am_ans v [.int x2, .ref 23]) h1 Q) := by
  refine (eq_run 7 (q := (174, [.ref 17, .ref 18, .int x2, .int x3, .int x4, .int x5, zx6], [.int x2, .ref 23, .int 0, .int x2, .ref 23], hp nS M)) (by with_unfolding_all rfl)).trans ?_
  refine (eq_ald (e := (.iaload, 1, 0, 0, 0)) (by with_unfolding_all rfl) rfl (n := 6) (by with_unfolding_all rfl) h1).trans ?_
  refine (eq_run 2 (q := (177, [.ref 17, .ref 18, .int x2, .int x3, .int x4, .int x5, zx6], [.int ((M 23 x2.toNatClampNeg) - 1), .int 0, .int x2, .ref 23], hp nS M)) (by with_unfolding_all rfl)).trans ?_
  exact eq_call2 (e := (.invokestatic 159, 3, 1, 297, 176)) (as := [.int 0, .int ((M 23 x2.toNatClampNeg) - 1)]) (r := [.int x2, .ref 23]) (n := 2) (m := 2) (by with_unfolding_all rfl) rfl (by decide) (by with_unfolding_all rfl) (by decide) (by with_unfolding_all rfl) ⟨fun z => absurd z (by decide), fun z => by simp at z⟩
set_option maxRecDepth 20000 in
theorem b_97_180 {d nS : Nat} {x2 x3 x4 x5 s1 s2 : Int32} {zx6 : Value} {M : am_M} {Q : Option Value → am_H → Prop} (h1 : vp_in s1 6) (h2 : am_rok .boolean x4 = true) : am_Wp d 97 180 [.ref 17, .ref 18, .int x2, .int x3, .int x4, .int x5, zx6] [.int s2, .int s1, .ref 23] (hp nS M) Q = Q (some (.int x4)) (hp nS (am_up M 23 s1.toNatClampNeg s2)) := by
  refine (eq_ast (e := (.iastore, 1, 0, 0, 0)) (by with_unfolding_all rfl) rfl (n := 6) (by with_unfolding_all rfl) (by decide) h1).trans ?_
  refine (eq_run 1 (q := (183, [.ref 17, .ref 18, .int x2, .int x3, .int x4, .int x5, zx6], [.int x4], hp nS (am_up M 23 s1.toNatClampNeg s2))) (by with_unfolding_all rfl)).trans ?_
  exact eq_retI2 (e := (.ireturn, 1, 0, 0, 0)) (t := .boolean) (by with_unfolding_all rfl) rfl (by with_unfolding_all rfl) h2
-- LarkExchange$Town sings(LLarkExchange$World;IZ)Z (97, (17, 101, None, None))
set_option maxRecDepth 20000 in
theorem b_97i1_0 {d nS : Nat} {x2 x3 : Int32} {M : am_M} {Q : Option Value → am_H → Prop} (h1 : vp_in x2 6) : am_Wp d 97 0 [.ref 17, .ref 101, .int x2, .int x3, .retAddr 0, .retAddr 0, .retAddr 0] [] (hp nS M) Q = am_Wp d 97 13 [.ref 17, .ref 101, .int x2, .int x3, .int 0, .int 0, .retAddr 0] [] (hp nS (am_up M 103 x2.toNatClampNeg 0)) Q := by
  refine (eq_run 6 (q := (9, [.ref 17, .ref 101, .int x2, .int x3, .int 0, .retAddr 0, .retAddr 0], [.int 0, .int x2, .ref 103], hp nS M)) (by with_unfolding_all rfl)).trans ?_
  refine (eq_ast (e := (.iastore, 1, 0, 0, 0)) (by with_unfolding_all rfl) rfl (n := 6) (by with_unfolding_all rfl) (by decide) h1).trans ?_
  exact eq_run 2 (q := (13, [.ref 17, .ref 101, .int x2, .int x3, .int 0, .int 0, .retAddr 0], [], hp nS (am_up M 103 x2.toNatClampNeg 0))) (by with_unfolding_all rfl)
set_option maxRecDepth 20000 in
theorem b_97i1_13 {d nS : Nat} {x2 x3 x4 x5 : Int32} {zx6 : Value} {M : am_M} {Q : Option Value → am_H → Prop} : am_Wp d 97 13 [.ref 17, .ref 101, .int x2, .int x3, .int x4, .int x5, zx6] [] (hp nS M) Q = if 30 ≤ x5 then am_Wp d 97 108 [.ref 17, .ref 101, .int x2, .int x3, .int x4, .int x5, zx6] [] (hp nS M) Q else am_Wp d 97 20 [.ref 17, .ref 101, .int x2, .int x3, .int x4, .int x5, zx6] [] (hp nS M) Q := by
  refine (eq_run 2 (q := (17, [.ref 17, .ref 101, .int x2, .int x3, .int x4, .int x5, zx6], [.int 30, .int x5], hp nS M)) (by with_unfolding_all rfl)).trans ?_
  exact eq_cmp_ge (by with_unfolding_all rfl)
set_option maxRecDepth 20000 in
theorem b_97i1_20 {d nS : Nat} {x2 x3 x4 x5 : Int32} {zx6 : Value} {M : am_M} {Q : Option Value → am_H → Prop} : am_Wp d 97 20 [.ref 17, .ref 101, .int x2, .int x3, .int x4, .int x5, zx6] [] (hp nS M) Q = if ¬ x4 = 0 then am_Wp d 97 108 [.ref 17, .ref 101, .int x2, .int x3, .int x4, .int x5, zx6] [] (hp nS M) Q else am_Wp d 97 25 [.ref 17, .ref 101, .int x2, .int x3, .int x4, .int x5, zx6] [] (hp nS M) Q := by
  refine (eq_run 1 (q := (22, [.ref 17, .ref 101, .int x2, .int x3, .int x4, .int x5, zx6], [.int x4], hp nS M)) (by with_unfolding_all rfl)).trans ?_
  exact eq_if_ne (by with_unfolding_all rfl)
set_option maxRecDepth 20000 in
theorem b_97i1_25 {d nS : Nat} {x2 x3 x4 x5 : Int32} {zx6 : Value} {M : am_M} {Q : Option Value → am_H → Prop} : am_Wp (d + 1) 97 25 [.ref 17, .ref 101, .int x2, .int x3, .int x4, .int x5, zx6] [] (hp nS M) Q = am_Wp d 20 0 [.ref 31, .int 0, .ref 101, .int x2, .int (-1), .int x5, .retAddr 0, .retAddr 0] [] (hp nS M) (fun v h1 => am_Wp (d + 1) 97 40 [.ref 17, .ref 101, .int x2, .int x3, .int x4, .int x5, zx6] (am_ans v [.int x2, .ref 101]) h1 Q) := by
  refine (eq_run 9 (q := (37, [.ref 17, .ref 101, .int x2, .int x3, .int x4, .int x5, zx6], [.int x5, .int (-1), .int x2, .ref 101, .int 0, .ref 31, .int x2, .ref 101], hp nS M)) (by with_unfolding_all rfl)).trans ?_
  exact eq_call2 (e := (.invokevirtual 143, 3, 0, 20, 172)) (as := [.ref 31, .int 0, .ref 101, .int x2, .int (-1), .int x5]) (r := [.int x2, .ref 101]) (n := 6) (m := 8) (by with_unfolding_all rfl) rfl (by decide) (by with_unfolding_all rfl) (by decide) (by with_unfolding_all rfl) ⟨fun _ => am_rec_ok (c := 5) (by with_unfolding_all rfl) (by decide +kernel), fun z => by simp at z⟩
set_option maxRecDepth 20000 in
theorem b_97i1_40 {d nS : Nat} {x2 x3 x4 x5 s1 s2 : Int32} {zx6 : Value} {M : am_M} {Q : Option Value → am_H → Prop} : am_Wp (d + 1) 97 40 [.ref 17, .ref 101, .int x2, .int x3, .int x4, .int x5, zx6] [.int s2, .int s1, .ref 101] (hp nS M) Q = am_Wp d 114 0 [.ref 101, .int s1, .int s2] [] (hp nS M) (fun v h1 => am_Wp (d + 1) 97 43 [.ref 17, .ref 101, .int x2, .int x3, .int x4, .int x5, zx6] (am_ans v []) h1 Q) := by
  exact eq_call2 (e := (.invokevirtual 147, 3, 0, 114, 173)) (as := [.ref 101, .int s1, .int s2]) (r := []) (n := 3) (m := 3) (by with_unfolding_all rfl) rfl (by decide) (by with_unfolding_all rfl) (by decide) (by with_unfolding_all rfl) ⟨fun _ => am_rec_ok (c := 12) (by with_unfolding_all rfl) (by decide +kernel), fun z => by simp at z⟩
set_option maxRecDepth 20000 in
theorem b_97i1_43 {d nS : Nat} {x2 x3 x4 x5 : Int32} {zx6 : Value} {M : am_M} {Q : Option Value → am_H → Prop} : am_Wp (d + 1) 97 43 [.ref 17, .ref 101, .int x2, .int x3, .int x4, .int x5, zx6] [] (hp nS M) Q = am_Wp d 20 0 [.ref 31, .int 1, .ref 101, .int x2, .int (-1), .int x5, .retAddr 0, .retAddr 0] [] (hp nS M) (fun v h1 => am_Wp (d + 1) 97 56 [.ref 17, .ref 101, .int x2, .int x3, .int x4, .int x5, zx6] (am_ans v []) h1 Q) := by
  refine (eq_run 7 (q := (53, [.ref 17, .ref 101, .int x2, .int x3, .int x4, .int x5, zx6], [.int x5, .int (-1), .int x2, .ref 101, .int 1, .ref 31], hp nS M)) (by with_unfolding_all rfl)).trans ?_
  exact eq_call2 (e := (.invokevirtual 143, 3, 0, 20, 172)) (as := [.ref 31, .int 1, .ref 101, .int x2, .int (-1), .int x5]) (r := []) (n := 6) (m := 8) (by with_unfolding_all rfl) rfl (by decide) (by with_unfolding_all rfl) (by decide) (by with_unfolding_all rfl) ⟨fun _ => am_rec_ok (c := 5) (by with_unfolding_all rfl) (by decide +kernel), fun z => by simp at z⟩
set_option maxRecDepth 20000 in
theorem b_97i1_56 {d nS : Nat} {x2 x3 x4 x5 s0 : Int32} {zx6 : Value} {M : am_M} {Q : Option Value → am_H → Prop} : am_Wp d 97 56 [.ref 17, .ref 101, .int x2, .int x3, .int x4, .int x5, zx6] [.int s0] (hp nS M) Q = if x3 = 0 then am_Wp d 97 87 [.ref 17, .ref 101, .int x2, .int x3, .int x4, .int x5, .int s0] [] (hp nS M) Q else am_Wp d 97 62 [.ref 17, .ref 101, .int x2, .int x3, .int x4, .int x5, .int s0] [] (hp nS M) Q := by
  refine (eq_run 2 (q := (59, [.ref 17, .ref 101, .int x2, .int x3, .int x4, .int x5, .int s0], [.int x3], hp nS M)) (by with_unfolding_all rfl)).trans ?_
  exact eq_if_eq (by with_unfolding_all rfl)
set_option maxRecDepth 20000 in
theorem b_97i1_62 {d nS : Nat} {x2 x3 x4 x5 x6 : Int32} {M : am_M} {Q : Option Value → am_H → Prop} : am_Wp d 97 62 [.ref 17, .ref 101, .int x2, .int x3, .int x4, .int x5, .int x6] [] (hp nS M) Q = if x6 ≤ 0 then am_Wp d 97 83 [.ref 17, .ref 101, .int x2, .int x3, .int x4, .int x5, .int x6] [] (hp nS M) Q else am_Wp d 97 67 [.ref 17, .ref 101, .int x2, .int x3, .int x4, .int x5, .int x6] [] (hp nS M) Q := by
  refine (eq_run 1 (q := (64, [.ref 17, .ref 101, .int x2, .int x3, .int x4, .int x5, .int x6], [.int x6], hp nS M)) (by with_unfolding_all rfl)).trans ?_
  exact eq_if_le (by with_unfolding_all rfl)
set_option maxRecDepth 20000 in
theorem b_97i1_67 {d nS : Nat} {x2 x3 x4 x5 x6 : Int32} {M : am_M} {Q : Option Value → am_H → Prop} : am_Wp (d + 1) 97 67 [.ref 17, .ref 101, .int x2, .int x3, .int x4, .int x5, .int x6] [] (hp nS M) Q = am_Wp d 115 0 [.ref 101, .int 1000] [] (hp nS M) (fun v h1 => am_Wp (d + 1) 97 74 [.ref 17, .ref 101, .int x2, .int x3, .int x4, .int x5, .int x6] (am_ans v []) h1 Q) := by
  refine (eq_run 2 (q := (71, [.ref 17, .ref 101, .int x2, .int x3, .int x4, .int x5, .int x6], [.int 1000, .ref 101], hp nS M)) (by with_unfolding_all rfl)).trans ?_
  exact eq_call2 (e := (.invokevirtual 151, 3, 0, 115, 174)) (as := [.ref 101, .int 1000]) (r := []) (n := 2) (m := 2) (by with_unfolding_all rfl) rfl (by decide) (by with_unfolding_all rfl) (by decide) (by with_unfolding_all rfl) ⟨fun _ => am_rec_ok (c := 12) (by with_unfolding_all rfl) (by decide +kernel), fun z => by simp at z⟩
set_option maxRecDepth 20000 in
theorem b_97i1_74 {d nS : Nat} {x2 x3 x4 x5 x6 s0 : Int32} {M : am_M} {Q : Option Value → am_H → Prop} : am_Wp d 97 74 [.ref 17, .ref 101, .int x2, .int x3, .int x4, .int x5, .int x6] [.int s0] (hp nS M) Q = if x6 ≤ s0 then am_Wp d 97 83 [.ref 17, .ref 101, .int x2, .int x3, .int x4, .int x5, .int x6] [] (hp nS M) Q else am_Wp d 97 79 [.ref 17, .ref 101, .int x2, .int x3, .int x4, .int x5, .int x6] [] (hp nS M) Q := by
  refine (eq_run 1 (q := (76, [.ref 17, .ref 101, .int x2, .int x3, .int x4, .int x5, .int x6], [.int x6, .int s0], hp nS M)) (by with_unfolding_all rfl)).trans ?_
  exact eq_cmp_ge (by with_unfolding_all rfl)
set_option maxRecDepth 20000 in
theorem b_97i1_79 {d nS : Nat} {x2 x3 x4 x5 x6 : Int32} {M : am_M} {Q : Option Value → am_H → Prop} : am_Wp d 97 79 [.ref 17, .ref 101, .int x2, .int x3, .int x4, .int x5, .int x6] [] (hp nS M) Q = am_Wp d 97 100 [.ref 17, .ref 101, .int x2, .int x3, .int x4, .int x5, .int x6] [.int 1] (hp nS M) Q := by
  exact eq_run 2 (q := (100, [.ref 17, .ref 101, .int x2, .int x3, .int x4, .int x5, .int x6], [.int 1], hp nS M)) (by with_unfolding_all rfl)
set_option maxRecDepth 20000 in
theorem b_97i1_83 {d nS : Nat} {x2 x3 x4 x5 x6 : Int32} {M : am_M} {Q : Option Value → am_H → Prop} : am_Wp d 97 83 [.ref 17, .ref 101, .int x2, .int x3, .int x4, .int x5, .int x6] [] (hp nS M) Q = am_Wp d 97 100 [.ref 17, .ref 101, .int x2, .int x3, .int x4, .int x5, .int x6] [.int 0] (hp nS M) Q := by
  exact eq_run 2 (q := (100, [.ref 17, .ref 101, .int x2, .int x3, .int x4, .int x5, .int x6], [.int 0], hp nS M)) (by with_unfolding_all rfl)
set_option maxRecDepth 20000 in
theorem b_97i1_87 {d nS : Nat} {x2 x3 x4 x5 x6 : Int32} {M : am_M} {Q : Option Value → am_H → Prop} : am_Wp d 97 87 [.ref 17, .ref 101, .int x2, .int x3, .int x4, .int x5, .int x6] [] (hp nS M) Q = if x6 < 500 then am_Wp d 97 99 [.ref 17, .ref 101, .int x2, .int x3, .int x4, .int x5, .int x6] [] (hp nS M) Q else am_Wp d 97 95 [.ref 17, .ref 101, .int x2, .int x3, .int x4, .int x5, .int x6] [] (hp nS M) Q := by
  refine (eq_run 2 (q := (92, [.ref 17, .ref 101, .int x2, .int x3, .int x4, .int x5, .int x6], [.int 500, .int x6], hp nS M)) (by with_unfolding_all rfl)).trans ?_
  exact eq_cmp_lt (by with_unfolding_all rfl)
set_option maxRecDepth 20000 in
theorem b_97i1_95 {d nS : Nat} {x2 x3 x4 x5 x6 : Int32} {M : am_M} {Q : Option Value → am_H → Prop} : am_Wp d 97 95 [.ref 17, .ref 101, .int x2, .int x3, .int x4, .int x5, .int x6] [] (hp nS M) Q = am_Wp d 97 100 [.ref 17, .ref 101, .int x2, .int x3, .int x4, .int x5, .int x6] [.int 1] (hp nS M) Q := by
  exact eq_run 2 (q := (100, [.ref 17, .ref 101, .int x2, .int x3, .int x4, .int x5, .int x6], [.int 1], hp nS M)) (by with_unfolding_all rfl)
set_option maxRecDepth 20000 in
theorem b_97i1_99 {d nS : Nat} {x2 x3 x4 x5 x6 : Int32} {M : am_M} {Q : Option Value → am_H → Prop} : am_Wp d 97 99 [.ref 17, .ref 101, .int x2, .int x3, .int x4, .int x5, .int x6] [] (hp nS M) Q = am_Wp d 97 100 [.ref 17, .ref 101, .int x2, .int x3, .int x4, .int x5, .int x6] [.int 0] (hp nS M) Q := by
  exact eq_run 1 (q := (100, [.ref 17, .ref 101, .int x2, .int x3, .int x4, .int x5, .int x6], [.int 0], hp nS M)) (by with_unfolding_all rfl)
set_option maxRecDepth 20000 in
theorem b_97i1_100 {d nS : Nat} {x2 x3 x4 x5 x6 s0 : Int32} {M : am_M} {Q : Option Value → am_H → Prop} : am_Wp d 97 100 [.ref 17, .ref 101, .int x2, .int x3, .int x4, .int x5, .int x6] [.int s0] (hp nS M) Q = am_Wp d 97 13 [.ref 17, .ref 101, .int x2, .int x3, .int s0, .int (x5 + 1), .int x6] [] (hp nS M) Q := by
  exact eq_run 3 (q := (13, [.ref 17, .ref 101, .int x2, .int x3, .int s0, .int (x5 + 1), .int x6], [], hp nS M)) (by with_unfolding_all rfl)
set_option maxRecDepth 20000 in
theorem b_97i1_108 {d nS : Nat} {x2 x3 x4 x5 : Int32} {zx6 : Value} {M : am_M} {Q : Option Value → am_H → Prop} : am_Wp d 97 108 [.ref 17, .ref 101, .int x2, .int x3, .int x4, .int x5, zx6] [] (hp nS M) Q = if x4 = 0 then am_Wp d 97 130 [.ref 17, .ref 101, .int x2, .int x3, .int x4, .int x5, zx6] [] (hp nS M) Q else am_Wp d 97 113 [.ref 17, .ref 101, .int x2, .int x3, .int x4, .int x5, zx6] [] (hp nS M) Q := by
  refine (eq_run 1 (q := (110, [.ref 17, .ref 101, .int x2, .int x3, .int x4, .int x5, zx6], [.int x4], hp nS M)) (by with_unfolding_all rfl)).trans ?_
  exact eq_if_eq (by with_unfolding_all rfl)
set_option maxRecDepth 20000 in
theorem b_97i1_113 {d nS : Nat} {x2 x3 x4 x5 : Int32} {zx6 : Value} {M : am_M} {Q : Option Value → am_H → Prop} (h1 : vp_in x2 6) : am_Wp (d + 1) 97 113 [.ref 17, .ref 101, .int x2, .int x3, .int x4, .int x5, zx6] [] (hp nS M) Q = am_Wp d 93 0 [.ref 17, .ref 101, .int 0, .int x2, .int (M 103 x2.toNatClampNeg), .int x3, .retAddr 0] [] (hp nS M) (fun v h1 => am_Wp (d + 1) 97 127 [.ref 17, .ref 101, .int x2, .int x3, .int x4, .int x5, zx6] (am_ans v []) h1 Q) := by
  refine (eq_run 7 (q := (122, [.ref 17, .ref 101, .int x2, .int x3, .int x4, .int x5, zx6], [.int x2, .ref 103, .int x2, .int 0, .ref 101, .ref 17], hp nS M)) (by with_unfolding_all rfl)).trans ?_
  refine (eq_ald (e := (.iaload, 1, 0, 0, 0)) (by with_unfolding_all rfl) rfl (n := 6) (by with_unfolding_all rfl) h1).trans ?_
  refine (eq_run 1 (q := (124, [.ref 17, .ref 101, .int x2, .int x3, .int x4, .int x5, zx6], [.int x3, .int (M 103 x2.toNatClampNeg), .int x2, .int 0, .ref 101, .ref 17], hp nS M)) (by with_unfolding_all rfl)).trans ?_
  exact eq_call2 (e := (.invokevirtual 155, 3, 0, 93, 175)) (as := [.ref 17, .ref 101, .int 0, .int x2, .int (M 103 x2.toNatClampNeg), .int x3]) (r := []) (n := 6) (m := 7) (by with_unfolding_all rfl) rfl (by decide) (by with_unfolding_all rfl) (by decide) (by with_unfolding_all rfl) ⟨fun _ => am_rec_ok (c := 11) (by with_unfolding_all rfl) (by decide +kernel), fun z => by simp at z⟩
set_option maxRecDepth 20000 in
theorem b_97i1_127 {d nS : Nat} {x2 x3 x4 x5 : Int32} {zx6 : Value} {M : am_M} {Q : Option Value → am_H → Prop} : am_Wp d 97 127 [.ref 17, .ref 101, .int x2, .int x3, .int x4, .int x5, zx6] [] (hp nS M) Q = am_Wp d 97 163 [.ref 17, .ref 101, .int x2, .int x3, .int x4, .int x5, zx6] [] (hp nS M) Q := by
  exact eq_run 1 (q := (163, [.ref 17, .ref 101, .int x2, .int x3, .int x4, .int x5, zx6], [], hp nS M)) (by with_unfolding_all rfl)
set_option maxRecDepth 20000 in
theorem b_97i1_130 {d nS : Nat} {x2 x3 x4 x5 : Int32} {zx6 : Value} {M : am_M} {Q : Option Value → am_H → Prop} (h1 : vp_in x2 6) : am_Wp d 97 130 [.ref 17, .ref 101, .int x2, .int x3, .int x4, .int x5, zx6] [] (hp nS M) Q = if (M 103 x2.toNatClampNeg) < 500 then am_Wp d 97 163 [.ref 17, .ref 101, .int x2, .int x3, .int x4, .int x5, zx6] [] (hp nS M) Q else am_Wp d 97 142 [.ref 17, .ref 101, .int x2, .int x3, .int x4, .int x5, zx6] [] (hp nS M) Q := by
  refine (eq_run 3 (q := (135, [.ref 17, .ref 101, .int x2, .int x3, .int x4, .int x5, zx6], [.int x2, .ref 103], hp nS M)) (by with_unfolding_all rfl)).trans ?_
  refine (eq_ald (e := (.iaload, 1, 0, 0, 0)) (by with_unfolding_all rfl) rfl (n := 6) (by with_unfolding_all rfl) h1).trans ?_
  refine (eq_run 1 (q := (139, [.ref 17, .ref 101, .int x2, .int x3, .int x4, .int x5, zx6], [.int 500, .int (M 103 x2.toNatClampNeg)], hp nS M)) (by with_unfolding_all rfl)).trans ?_
  exact eq_cmp_lt (by with_unfolding_all rfl)
set_option maxRecDepth 20000 in
theorem b_97i1_142 {d nS : Nat} {x2 x3 x4 x5 : Int32} {zx6 : Value} {M : am_M} {Q : Option Value → am_H → Prop} (h1 : vp_in x2 6) (h2 : vp_in x2 6) : am_Wp (d + 1) 97 142 [.ref 17, .ref 101, .int x2, .int x3, .int x4, .int x5, zx6] [] (hp nS M) Q = am_Wp d 93 0 [.ref 17, .ref 101, .int 1, .int x2, .int ((am_up M 105 x2.toNatClampNeg 1) 103 x2.toNatClampNeg), .int x3, .retAddr 0] [] (hp nS (am_up M 105 x2.toNatClampNeg 1)) (fun v h1 => am_Wp (d + 1) 97 163 [.ref 17, .ref 101, .int x2, .int x3, .int x4, .int x5, zx6] (am_ans v []) h1 Q) := by
  refine (eq_run 4 (q := (148, [.ref 17, .ref 101, .int x2, .int x3, .int x4, .int x5, zx6], [.int 1, .int x2, .ref 105], hp nS M)) (by with_unfolding_all rfl)).trans ?_
  refine (eq_ast (e := (.iastore, 1, 0, 0, 0)) (by with_unfolding_all rfl) rfl (n := 6) (by with_unfolding_all rfl) (by decide) h1).trans ?_
  refine (eq_run 7 (q := (158, [.ref 17, .ref 101, .int x2, .int x3, .int x4, .int x5, zx6], [.int x2, .ref 103, .int x2, .int 1, .ref 101, .ref 17], hp nS (am_up M 105 x2.toNatClampNeg 1))) (by with_unfolding_all rfl)).trans ?_
  refine (eq_ald (e := (.iaload, 1, 0, 0, 0)) (by with_unfolding_all rfl) rfl (n := 6) (by with_unfolding_all rfl) h2).trans ?_
  refine (eq_run 1 (q := (160, [.ref 17, .ref 101, .int x2, .int x3, .int x4, .int x5, zx6], [.int x3, .int ((am_up M 105 x2.toNatClampNeg 1) 103 x2.toNatClampNeg), .int x2, .int 1, .ref 101, .ref 17], hp nS (am_up M 105 x2.toNatClampNeg 1))) (by with_unfolding_all rfl)).trans ?_
  exact eq_call2 (e := (.invokevirtual 155, 3, 0, 93, 175)) (as := [.ref 17, .ref 101, .int 1, .int x2, .int ((am_up M 105 x2.toNatClampNeg 1) 103 x2.toNatClampNeg), .int x3]) (r := []) (n := 6) (m := 7) (by with_unfolding_all rfl) rfl (by decide) (by with_unfolding_all rfl) (by decide) (by with_unfolding_all rfl) ⟨fun _ => am_rec_ok (c := 11) (by with_unfolding_all rfl) (by decide +kernel), fun z => by simp at z⟩
set_option maxRecDepth 20000 in
theorem b_97i1_163 {d nS : Nat} {x2 x3 x4 x5 : Int32} {zx6 : Value} {M : am_M} {Q : Option Value → am_H → Prop} (h1 : vp_in x2 6) : am_Wp (d + 1) 97 163 [.ref 17, .ref 101, .int x2, .int x3, .int x4, .int x5, zx6] [] (hp nS M) Q = am_Wp d 297 0 [.int 0, .int ((M 106 x2.toNatClampNeg) - 1)] [] (hp nS M) (fun v h1 => am_Wp (d + 1) 97 180 [.ref 17, .ref 101, .int x2, .int x3, .int x4, .int x5, zx6] (am_ans v [.int x2, .ref 106]) h1 Q) := by
  refine (eq_run 7 (q := (174, [.ref 17, .ref 101, .int x2, .int x3, .int x4, .int x5, zx6], [.int x2, .ref 106, .int 0, .int x2, .ref 106], hp nS M)) (by with_unfolding_all rfl)).trans ?_
  refine (eq_ald (e := (.iaload, 1, 0, 0, 0)) (by with_unfolding_all rfl) rfl (n := 6) (by with_unfolding_all rfl) h1).trans ?_
  refine (eq_run 2 (q := (177, [.ref 17, .ref 101, .int x2, .int x3, .int x4, .int x5, zx6], [.int ((M 106 x2.toNatClampNeg) - 1), .int 0, .int x2, .ref 106], hp nS M)) (by with_unfolding_all rfl)).trans ?_
  exact eq_call2 (e := (.invokestatic 159, 3, 1, 297, 176)) (as := [.int 0, .int ((M 106 x2.toNatClampNeg) - 1)]) (r := [.int x2, .ref 106]) (n := 2) (m := 2) (by with_unfolding_all rfl) rfl (by decide) (by with_unfolding_all rfl) (by decide) (by with_unfolding_all rfl) ⟨fun z => absurd z (by decide), fun z => by simp at z⟩
set_option maxRecDepth 20000 in
theorem b_97i1_180 {d nS : Nat} {x2 x3 x4 x5 s1 s2 : Int32} {zx6 : Value} {M : am_M} {Q : Option Value → am_H → Prop} (h1 : vp_in s1 6) (h2 : am_rok .boolean x4 = true) : am_Wp d 97 180 [.ref 17, .ref 101, .int x2, .int x3, .int x4, .int x5, zx6] [.int s2, .int s1, .ref 106] (hp nS M) Q = Q (some (.int x4)) (hp nS (am_up M 106 s1.toNatClampNeg s2)) := by
  refine (eq_ast (e := (.iastore, 1, 0, 0, 0)) (by with_unfolding_all rfl) rfl (n := 6) (by with_unfolding_all rfl) (by decide) h1).trans ?_
  refine (eq_run 1 (q := (183, [.ref 17, .ref 101, .int x2, .int x3, .int x4, .int x5, zx6], [.int x4], hp nS (am_up M 106 s1.toNatClampNeg s2))) (by with_unfolding_all rfl)).trans ?_
  exact eq_retI2 (e := (.ireturn, 1, 0, 0, 0)) (t := .boolean) (by with_unfolding_all rfl) rfl (by with_unfolding_all rfl) h2
-- LarkExchange$Town chalks(LLarkExchange$World;)V (98, (17, 18))
set_option maxRecDepth 20000 in
theorem b_98_0 {d nS : Nat} {M : am_M} {Q : Option Value → am_H → Prop} : am_Wp d 98 0 [.ref 17, .ref 18, .retAddr 0, .retAddr 0] [] (hp nS M) Q = am_Wp d 98 2 [.ref 17, .ref 18, .int 0, .retAddr 0] [] (hp nS M) Q := by
  exact eq_run 2 (q := (2, [.ref 17, .ref 18, .int 0, .retAddr 0], [], hp nS M)) (by with_unfolding_all rfl)
set_option maxRecDepth 20000 in
theorem b_98_2 {d nS : Nat} {x2 : Int32} {zx3 : Value} {M : am_M} {Q : Option Value → am_H → Prop} : am_Wp d 98 2 [.ref 17, .ref 18, .int x2, zx3] [] (hp nS M) Q = if (M 18 1) ≤ x2 then am_Wp d 98 58 [.ref 17, .ref 18, .int x2, zx3] [] (hp nS M) Q else am_Wp d 98 10 [.ref 17, .ref 18, .int x2, zx3] [] (hp nS M) Q := by
  refine (eq_run 3 (q := (7, [.ref 17, .ref 18, .int x2, zx3], [.int (M 18 1), .int x2], hp nS M)) (by with_unfolding_all rfl)).trans ?_
  exact eq_cmp_ge (by with_unfolding_all rfl)
set_option maxRecDepth 20000 in
theorem b_98_10 {d nS : Nat} {x2 : Int32} {zx3 : Value} {M : am_M} {Q : Option Value → am_H → Prop} (h1 : vp_in x2 8) : am_Wp (d + 1) 98 10 [.ref 17, .ref 18, .int x2, zx3] [] (hp nS M) Q = am_Wp d 104 0 [.ref 18, .int (M 25 x2.toNatClampNeg)] [] (hp nS M) (fun v h1 => am_Wp (d + 1) 98 22 [.ref 17, .ref 18, .int x2, .int (M 25 x2.toNatClampNeg)] (am_ans v []) h1 Q) := by
  refine (eq_run 3 (q := (15, [.ref 17, .ref 18, .int x2, zx3], [.int x2, .ref 25], hp nS M)) (by with_unfolding_all rfl)).trans ?_
  refine (eq_ald (e := (.iaload, 1, 0, 0, 0)) (by with_unfolding_all rfl) rfl (n := 8) (by with_unfolding_all rfl) h1).trans ?_
  refine (eq_run 3 (q := (19, [.ref 17, .ref 18, .int x2, .int (M 25 x2.toNatClampNeg)], [.int (M 25 x2.toNatClampNeg), .ref 18], hp nS M)) (by with_unfolding_all rfl)).trans ?_
  exact eq_call2 (e := (.invokevirtual 124, 3, 0, 104, 169)) (as := [.ref 18, .int (M 25 x2.toNatClampNeg)]) (r := []) (n := 2) (m := 2) (by with_unfolding_all rfl) rfl (by decide) (by with_unfolding_all rfl) (by decide) (by with_unfolding_all rfl) ⟨fun _ => am_rec_ok (c := 12) (by with_unfolding_all rfl) (by decide +kernel), fun z => by simp at z⟩
set_option maxRecDepth 20000 in
theorem b_98_22 {d nS : Nat} {x2 x3 s0 : Int32} {M : am_M} {Q : Option Value → am_H → Prop} : am_Wp d 98 22 [.ref 17, .ref 18, .int x2, .int x3] [.int s0] (hp nS M) Q = if s0 = 0 then am_Wp d 98 34 [.ref 17, .ref 18, .int x2, .int x3] [] (hp nS M) Q else am_Wp d 98 25 [.ref 17, .ref 18, .int x2, .int x3] [] (hp nS M) Q := by
  exact eq_if_eq (by with_unfolding_all rfl)
set_option maxRecDepth 20000 in
theorem b_98_25 {d nS : Nat} {x2 x3 : Int32} {M : am_M} {Q : Option Value → am_H → Prop} (h1 : vp_in x3 6) : am_Wp d 98 25 [.ref 17, .ref 18, .int x2, .int x3] [] (hp nS M) Q = if ¬ (M 22 x3.toNatClampNeg) = 0 then am_Wp d 98 52 [.ref 17, .ref 18, .int x2, .int x3] [] (hp nS M) Q else am_Wp d 98 34 [.ref 17, .ref 18, .int x2, .int x3] [] (hp nS M) Q := by
  refine (eq_run 3 (q := (30, [.ref 17, .ref 18, .int x2, .int x3], [.int x3, .ref 22], hp nS M)) (by with_unfolding_all rfl)).trans ?_
  refine (eq_ald (e := (.iaload, 1, 0, 0, 0)) (by with_unfolding_all rfl) rfl (n := 6) (by with_unfolding_all rfl) h1).trans ?_
  exact eq_if_ne (by with_unfolding_all rfl)
set_option maxRecDepth 20000 in
theorem b_98_34 {d nS : Nat} {x2 x3 : Int32} {M : am_M} {Q : Option Value → am_H → Prop} : am_Wp (d + 1) 98 34 [.ref 17, .ref 18, .int x2, .int x3] [] (hp nS M) Q = am_Wp d 20 0 [.ref 31, .int 2, .ref 18, .int x3, .int x2, .int 0, .retAddr 0, .retAddr 0] [] (hp nS M) (fun v h1 => am_Wp (d + 1) 98 51 [.ref 17, .ref 18, .int x2, .int x3] (am_ans v [.int x2, .ref 26]) h1 Q) := by
  refine (eq_run 10 (q := (48, [.ref 17, .ref 18, .int x2, .int x3], [.int 0, .int x2, .int x3, .ref 18, .int 2, .ref 31, .int x2, .ref 26], hp nS M)) (by with_unfolding_all rfl)).trans ?_
  exact eq_call2 (e := (.invokevirtual 143, 3, 0, 20, 172)) (as := [.ref 31, .int 2, .ref 18, .int x3, .int x2, .int 0]) (r := [.int x2, .ref 26]) (n := 6) (m := 8) (by with_unfolding_all rfl) rfl (by decide) (by with_unfolding_all rfl) (by decide) (by with_unfolding_all rfl) ⟨fun _ => am_rec_ok (c := 5) (by with_unfolding_all rfl) (by decide +kernel), fun z => by simp at z⟩
set_option maxRecDepth 20000 in
theorem b_98_51 {d nS : Nat} {x2 x3 s1 s2 : Int32} {M : am_M} {Q : Option Value → am_H → Prop} (h1 : vp_in s1 8) : am_Wp d 98 51 [.ref 17, .ref 18, .int x2, .int x3] [.int s2, .int s1, .ref 26] (hp nS M) Q = am_Wp d 98 52 [.ref 17, .ref 18, .int x2, .int x3] [] (hp nS (am_up M 26 s1.toNatClampNeg s2)) Q := by
  exact eq_ast (e := (.iastore, 1, 0, 0, 0)) (by with_unfolding_all rfl) rfl (n := 8) (by with_unfolding_all rfl) (by decide) h1
set_option maxRecDepth 20000 in
theorem b_98_52 {d nS : Nat} {x2 x3 : Int32} {M : am_M} {Q : Option Value → am_H → Prop} : am_Wp d 98 52 [.ref 17, .ref 18, .int x2, .int x3] [] (hp nS M) Q = am_Wp d 98 2 [.ref 17, .ref 18, .int (x2 + 1), .int x3] [] (hp nS M) Q := by
  exact eq_run 2 (q := (2, [.ref 17, .ref 18, .int (x2 + 1), .int x3], [], hp nS M)) (by with_unfolding_all rfl)
set_option maxRecDepth 20000 in
theorem b_98_58 {d nS : Nat} {x2 : Int32} {zx3 : Value} {M : am_M} {Q : Option Value → am_H → Prop} : am_Wp d 98 58 [.ref 17, .ref 18, .int x2, zx3] [] (hp nS M) Q = Q none (hp nS M) := by
  exact eq_retV2 (e := (.return_, 1, 0, 0, 0)) (by with_unfolding_all rfl) rfl (by with_unfolding_all rfl)
-- LarkExchange$Town chalks(LLarkExchange$World;)V (98, (17, 101))
set_option maxRecDepth 20000 in
theorem b_98i1_0 {d nS : Nat} {M : am_M} {Q : Option Value → am_H → Prop} : am_Wp d 98 0 [.ref 17, .ref 101, .retAddr 0, .retAddr 0] [] (hp nS M) Q = am_Wp d 98 2 [.ref 17, .ref 101, .int 0, .retAddr 0] [] (hp nS M) Q := by
  exact eq_run 2 (q := (2, [.ref 17, .ref 101, .int 0, .retAddr 0], [], hp nS M)) (by with_unfolding_all rfl)
set_option maxRecDepth 20000 in
theorem b_98i1_2 {d nS : Nat} {x2 : Int32} {zx3 : Value} {M : am_M} {Q : Option Value → am_H → Prop} : am_Wp d 98 2 [.ref 17, .ref 101, .int x2, zx3] [] (hp nS M) Q = if (M 101 1) ≤ x2 then am_Wp d 98 58 [.ref 17, .ref 101, .int x2, zx3] [] (hp nS M) Q else am_Wp d 98 10 [.ref 17, .ref 101, .int x2, zx3] [] (hp nS M) Q := by
  refine (eq_run 3 (q := (7, [.ref 17, .ref 101, .int x2, zx3], [.int (M 101 1), .int x2], hp nS M)) (by with_unfolding_all rfl)).trans ?_
  exact eq_cmp_ge (by with_unfolding_all rfl)
set_option maxRecDepth 20000 in
theorem b_98i1_10 {d nS : Nat} {x2 : Int32} {zx3 : Value} {M : am_M} {Q : Option Value → am_H → Prop} (h1 : vp_in x2 8) : am_Wp (d + 1) 98 10 [.ref 17, .ref 101, .int x2, zx3] [] (hp nS M) Q = am_Wp d 104 0 [.ref 101, .int (M 108 x2.toNatClampNeg)] [] (hp nS M) (fun v h1 => am_Wp (d + 1) 98 22 [.ref 17, .ref 101, .int x2, .int (M 108 x2.toNatClampNeg)] (am_ans v []) h1 Q) := by
  refine (eq_run 3 (q := (15, [.ref 17, .ref 101, .int x2, zx3], [.int x2, .ref 108], hp nS M)) (by with_unfolding_all rfl)).trans ?_
  refine (eq_ald (e := (.iaload, 1, 0, 0, 0)) (by with_unfolding_all rfl) rfl (n := 8) (by with_unfolding_all rfl) h1).trans ?_
  refine (eq_run 3 (q := (19, [.ref 17, .ref 101, .int x2, .int (M 108 x2.toNatClampNeg)], [.int (M 108 x2.toNatClampNeg), .ref 101], hp nS M)) (by with_unfolding_all rfl)).trans ?_
  exact eq_call2 (e := (.invokevirtual 124, 3, 0, 104, 169)) (as := [.ref 101, .int (M 108 x2.toNatClampNeg)]) (r := []) (n := 2) (m := 2) (by with_unfolding_all rfl) rfl (by decide) (by with_unfolding_all rfl) (by decide) (by with_unfolding_all rfl) ⟨fun _ => am_rec_ok (c := 12) (by with_unfolding_all rfl) (by decide +kernel), fun z => by simp at z⟩
set_option maxRecDepth 20000 in
theorem b_98i1_22 {d nS : Nat} {x2 x3 s0 : Int32} {M : am_M} {Q : Option Value → am_H → Prop} : am_Wp d 98 22 [.ref 17, .ref 101, .int x2, .int x3] [.int s0] (hp nS M) Q = if s0 = 0 then am_Wp d 98 34 [.ref 17, .ref 101, .int x2, .int x3] [] (hp nS M) Q else am_Wp d 98 25 [.ref 17, .ref 101, .int x2, .int x3] [] (hp nS M) Q := by
  exact eq_if_eq (by with_unfolding_all rfl)
set_option maxRecDepth 20000 in
theorem b_98i1_25 {d nS : Nat} {x2 x3 : Int32} {M : am_M} {Q : Option Value → am_H → Prop} (h1 : vp_in x3 6) : am_Wp d 98 25 [.ref 17, .ref 101, .int x2, .int x3] [] (hp nS M) Q = if ¬ (M 105 x3.toNatClampNeg) = 0 then am_Wp d 98 52 [.ref 17, .ref 101, .int x2, .int x3] [] (hp nS M) Q else am_Wp d 98 34 [.ref 17, .ref 101, .int x2, .int x3] [] (hp nS M) Q := by
  refine (eq_run 3 (q := (30, [.ref 17, .ref 101, .int x2, .int x3], [.int x3, .ref 105], hp nS M)) (by with_unfolding_all rfl)).trans ?_
  refine (eq_ald (e := (.iaload, 1, 0, 0, 0)) (by with_unfolding_all rfl) rfl (n := 6) (by with_unfolding_all rfl) h1).trans ?_
  exact eq_if_ne (by with_unfolding_all rfl)
set_option maxRecDepth 20000 in
theorem b_98i1_34 {d nS : Nat} {x2 x3 : Int32} {M : am_M} {Q : Option Value → am_H → Prop} : am_Wp (d + 1) 98 34 [.ref 17, .ref 101, .int x2, .int x3] [] (hp nS M) Q = am_Wp d 20 0 [.ref 31, .int 2, .ref 101, .int x3, .int x2, .int 0, .retAddr 0, .retAddr 0] [] (hp nS M) (fun v h1 => am_Wp (d + 1) 98 51 [.ref 17, .ref 101, .int x2, .int x3] (am_ans v [.int x2, .ref 109]) h1 Q) := by
  refine (eq_run 10 (q := (48, [.ref 17, .ref 101, .int x2, .int x3], [.int 0, .int x2, .int x3, .ref 101, .int 2, .ref 31, .int x2, .ref 109], hp nS M)) (by with_unfolding_all rfl)).trans ?_
  exact eq_call2 (e := (.invokevirtual 143, 3, 0, 20, 172)) (as := [.ref 31, .int 2, .ref 101, .int x3, .int x2, .int 0]) (r := [.int x2, .ref 109]) (n := 6) (m := 8) (by with_unfolding_all rfl) rfl (by decide) (by with_unfolding_all rfl) (by decide) (by with_unfolding_all rfl) ⟨fun _ => am_rec_ok (c := 5) (by with_unfolding_all rfl) (by decide +kernel), fun z => by simp at z⟩
set_option maxRecDepth 20000 in
theorem b_98i1_51 {d nS : Nat} {x2 x3 s1 s2 : Int32} {M : am_M} {Q : Option Value → am_H → Prop} (h1 : vp_in s1 8) : am_Wp d 98 51 [.ref 17, .ref 101, .int x2, .int x3] [.int s2, .int s1, .ref 109] (hp nS M) Q = am_Wp d 98 52 [.ref 17, .ref 101, .int x2, .int x3] [] (hp nS (am_up M 109 s1.toNatClampNeg s2)) Q := by
  exact eq_ast (e := (.iastore, 1, 0, 0, 0)) (by with_unfolding_all rfl) rfl (n := 8) (by with_unfolding_all rfl) (by decide) h1
set_option maxRecDepth 20000 in
theorem b_98i1_52 {d nS : Nat} {x2 x3 : Int32} {M : am_M} {Q : Option Value → am_H → Prop} : am_Wp d 98 52 [.ref 17, .ref 101, .int x2, .int x3] [] (hp nS M) Q = am_Wp d 98 2 [.ref 17, .ref 101, .int (x2 + 1), .int x3] [] (hp nS M) Q := by
  exact eq_run 2 (q := (2, [.ref 17, .ref 101, .int (x2 + 1), .int x3], [], hp nS M)) (by with_unfolding_all rfl)
set_option maxRecDepth 20000 in
theorem b_98i1_58 {d nS : Nat} {x2 : Int32} {zx3 : Value} {M : am_M} {Q : Option Value → am_H → Prop} : am_Wp d 98 58 [.ref 17, .ref 101, .int x2, zx3] [] (hp nS M) Q = Q none (hp nS M) := by
  exact eq_retV2 (e := (.return_, 1, 0, 0, 0)) (by with_unfolding_all rfl) rfl (by with_unfolding_all rfl)
-- LarkExchange$Town deals(LLarkExchange$World;IZ)V (99, (17, 18, None, None))
set_option maxRecDepth 20000 in
theorem b_99_0 {d nS : Nat} {x2 x3 : Int32} {M : am_M} {Q : Option Value → am_H → Prop} : am_Wp (d + 1) 99 0 [.ref 17, .ref 18, .int x2, .int x3, .retAddr 0, .retAddr 0, .retAddr 0] [] (hp nS M) Q = am_Wp d 33 0 [.ref 41, .int x2, .int 1] [] (hp nS M) (fun v h1 => am_Wp (d + 1) 99 9 [.ref 17, .ref 18, .int x2, .int x3, .retAddr 0, .retAddr 0, .retAddr 0] (am_ans v []) h1 Q) := by
  refine (eq_run 4 (q := (6, [.ref 17, .ref 18, .int x2, .int x3, .retAddr 0, .retAddr 0, .retAddr 0], [.int 1, .int x2, .ref 41], hp nS M)) (by with_unfolding_all rfl)).trans ?_
  exact eq_call2 (e := (.invokevirtual 106, 3, 0, 33, 166)) (as := [.ref 41, .int x2, .int 1]) (r := []) (n := 3) (m := 3) (by with_unfolding_all rfl) rfl (by decide) (by with_unfolding_all rfl) (by decide) (by with_unfolding_all rfl) ⟨fun _ => am_rec_ok (c := 6) (by with_unfolding_all rfl) (by decide +kernel), fun z => by simp at z⟩
set_option maxRecDepth 20000 in
theorem b_99_9 {d nS : Nat} {x2 x3 s0 : Int32} {M : am_M} {Q : Option Value → am_H → Prop} : am_Wp (d + 1) 99 9 [.ref 17, .ref 18, .int x2, .int x3, .retAddr 0, .retAddr 0, .retAddr 0] [.int s0] (hp nS M) Q = am_Wp d 33 0 [.ref 41, .int x2, .int 3] [] (hp nS M) (fun v h1 => am_Wp (d + 1) 99 20 [.ref 17, .ref 18, .int x2, .int x3, .int s0, .retAddr 0, .retAddr 0] (am_ans v []) h1 Q) := by
  refine (eq_run 5 (q := (17, [.ref 17, .ref 18, .int x2, .int x3, .int s0, .retAddr 0, .retAddr 0], [.int 3, .int x2, .ref 41], hp nS M)) (by with_unfolding_all rfl)).trans ?_
  exact eq_call2 (e := (.invokevirtual 106, 3, 0, 33, 166)) (as := [.ref 41, .int x2, .int 3]) (r := []) (n := 3) (m := 3) (by with_unfolding_all rfl) rfl (by decide) (by with_unfolding_all rfl) (by decide) (by with_unfolding_all rfl) ⟨fun _ => am_rec_ok (c := 6) (by with_unfolding_all rfl) (by decide +kernel), fun z => by simp at z⟩
set_option maxRecDepth 20000 in
theorem b_99_20 {d nS : Nat} {x2 x3 x4 s0 : Int32} {M : am_M} {Q : Option Value → am_H → Prop} : am_Wp (d + 1) 99 20 [.ref 17, .ref 18, .int x2, .int x3, .int x4, .retAddr 0, .retAddr 0] [.int s0] (hp nS M) Q = am_Wp d 33 0 [.ref 41, .int x2, .int 4] [] (hp nS M) (fun v h1 => am_Wp (d + 1) 99 31 [.ref 17, .ref 18, .int x2, .int x3, .int x4, .int s0, .retAddr 0] (am_ans v []) h1 Q) := by
  refine (eq_run 5 (q := (28, [.ref 17, .ref 18, .int x2, .int x3, .int x4, .int s0, .retAddr 0], [.int 4, .int x2, .ref 41], hp nS M)) (by with_unfolding_all rfl)).trans ?_
  exact eq_call2 (e := (.invokevirtual 106, 3, 0, 33, 166)) (as := [.ref 41, .int x2, .int 4]) (r := []) (n := 3) (m := 3) (by with_unfolding_all rfl) rfl (by decide) (by with_unfolding_all rfl) (by decide) (by with_unfolding_all rfl) ⟨fun _ => am_rec_ok (c := 6) (by with_unfolding_all rfl) (by decide +kernel), fun z => by simp at z⟩
set_option maxRecDepth 20000 in
theorem b_99_31 {d nS : Nat} {x2 x3 x4 x5 s0 : Int32} {M : am_M} {Q : Option Value → am_H → Prop} : am_Wp (d + 1) 99 31 [.ref 17, .ref 18, .int x2, .int x3, .int x4, .int x5, .retAddr 0] [.int s0] (hp nS M) Q = am_Wp d 108 0 [.ref 18, .int x4, .int s0] [] (hp nS M) (fun v h1 => am_Wp (d + 1) 99 41 [.ref 17, .ref 18, .int x2, .int x3, .int x4, .int x5, .int s0] (am_ans v []) h1 Q) := by
  refine (eq_run 4 (q := (38, [.ref 17, .ref 18, .int x2, .int x3, .int x4, .int x5, .int s0], [.int s0, .int x4, .ref 18], hp nS M)) (by with_unfolding_all rfl)).trans ?_
  exact eq_call2 (e := (.invokevirtual 171, 3, 0, 108, 177)) (as := [.ref 18, .int x4, .int s0]) (r := []) (n := 3) (m := 3) (by with_unfolding_all rfl) rfl (by decide) (by with_unfolding_all rfl) (by decide) (by with_unfolding_all rfl) ⟨fun _ => am_rec_ok (c := 12) (by with_unfolding_all rfl) (by decide +kernel), fun z => by simp at z⟩
set_option maxRecDepth 20000 in
theorem b_99_41 {d nS : Nat} {x2 x3 x4 x5 x6 s0 : Int32} {M : am_M} {Q : Option Value → am_H → Prop} : am_Wp d 99 41 [.ref 17, .ref 18, .int x2, .int x3, .int x4, .int x5, .int x6] [.int s0] (hp nS M) Q = if ¬ s0 = 0 then am_Wp d 99 45 [.ref 17, .ref 18, .int x2, .int x3, .int x4, .int x5, .int x6] [] (hp nS M) Q else am_Wp d 99 44 [.ref 17, .ref 18, .int x2, .int x3, .int x4, .int x5, .int x6] [] (hp nS M) Q := by
  exact eq_if_ne (by with_unfolding_all rfl)
set_option maxRecDepth 20000 in
theorem b_99_44 {d nS : Nat} {x2 x3 x4 x5 x6 : Int32} {M : am_M} {Q : Option Value → am_H → Prop} : am_Wp d 99 44 [.ref 17, .ref 18, .int x2, .int x3, .int x4, .int x5, .int x6] [] (hp nS M) Q = Q none (hp nS M) := by
  exact eq_retV2 (e := (.return_, 1, 0, 0, 0)) (by with_unfolding_all rfl) rfl (by with_unfolding_all rfl)
set_option maxRecDepth 20000 in
theorem b_99_45 {d nS : Nat} {x2 x3 x4 x5 x6 : Int32} {M : am_M} {Q : Option Value → am_H → Prop} : am_Wp (d + 1) 99 45 [.ref 17, .ref 18, .int x2, .int x3, .int x4, .int x5, .int x6] [] (hp nS M) Q = am_Wp d 33 0 [.ref 41, .int x2, .int 2] [] (hp nS M) (fun v h1 => am_Wp (d + 1) 99 54 [.ref 17, .ref 18, .int x2, .int x3, .int x4, .int x5, .int x6] (am_ans v []) h1 Q) := by
  refine (eq_run 4 (q := (51, [.ref 17, .ref 18, .int x2, .int x3, .int x4, .int x5, .int x6], [.int 2, .int x2, .ref 41], hp nS M)) (by with_unfolding_all rfl)).trans ?_
  exact eq_call2 (e := (.invokevirtual 106, 3, 0, 33, 166)) (as := [.ref 41, .int x2, .int 2]) (r := []) (n := 3) (m := 3) (by with_unfolding_all rfl) rfl (by decide) (by with_unfolding_all rfl) (by decide) (by with_unfolding_all rfl) ⟨fun _ => am_rec_ok (c := 6) (by with_unfolding_all rfl) (by decide +kernel), fun z => by simp at z⟩
set_option maxRecDepth 20000 in
theorem b_99_54 {d nS : Nat} {x2 x3 x4 x5 x6 s0 : Int32} {M : am_M} {Q : Option Value → am_H → Prop} : am_Wp d 99 54 [.ref 17, .ref 18, .int x2, .int x3, .int x4, .int x5, .int x6] [.int s0] (hp nS M) Q = if ¬ s0 = 21 then am_Wp d 99 74 [.ref 17, .ref 18, .int x2, .int x3, .int x4, .int x5, .int x6] [] (hp nS M) Q else am_Wp d 99 59 [.ref 17, .ref 18, .int x2, .int x3, .int x4, .int x5, .int x6] [] (hp nS M) Q := by
  refine (eq_run 1 (q := (56, [.ref 17, .ref 18, .int x2, .int x3, .int x4, .int x5, .int x6], [.int 21, .int s0], hp nS M)) (by with_unfolding_all rfl)).trans ?_
  exact eq_cmp_ne (by with_unfolding_all rfl)
set_option maxRecDepth 20000 in
theorem b_99_59 {d nS : Nat} {x2 x3 x4 x5 x6 : Int32} {M : am_M} {Q : Option Value → am_H → Prop} : am_Wp (d + 1) 99 59 [.ref 17, .ref 18, .int x2, .int x3, .int x4, .int x5, .int x6] [] (hp nS M) Q = am_Wp d 92 0 [.ref 17, .ref 18, .int x4, .int x6, .int x5, .int x3, .retAddr 0] [] (hp nS M) (fun v h1 => am_Wp (d + 1) 99 71 [.ref 17, .ref 18, .int x2, .int x3, .int x4, .int x5, .int x6] (am_ans v []) h1 Q) := by
  refine (eq_run 6 (q := (68, [.ref 17, .ref 18, .int x2, .int x3, .int x4, .int x5, .int x6], [.int x3, .int x5, .int x6, .int x4, .ref 18, .ref 17], hp nS M)) (by with_unfolding_all rfl)).trans ?_
  exact eq_call2 (e := (.invokevirtual 175, 3, 0, 92, 178)) (as := [.ref 17, .ref 18, .int x4, .int x6, .int x5, .int x3]) (r := []) (n := 6) (m := 7) (by with_unfolding_all rfl) rfl (by decide) (by with_unfolding_all rfl) (by decide) (by with_unfolding_all rfl) ⟨fun _ => am_rec_ok (c := 11) (by with_unfolding_all rfl) (by decide +kernel), fun z => by simp at z⟩
set_option maxRecDepth 20000 in
theorem b_99_71 {d nS : Nat} {x2 x3 x4 x5 x6 : Int32} {M : am_M} {Q : Option Value → am_H → Prop} : am_Wp d 99 71 [.ref 17, .ref 18, .int x2, .int x3, .int x4, .int x5, .int x6] [] (hp nS M) Q = am_Wp d 99 86 [.ref 17, .ref 18, .int x2, .int x3, .int x4, .int x5, .int x6] [] (hp nS M) Q := by
  exact eq_run 1 (q := (86, [.ref 17, .ref 18, .int x2, .int x3, .int x4, .int x5, .int x6], [], hp nS M)) (by with_unfolding_all rfl)
set_option maxRecDepth 20000 in
theorem b_99_74 {d nS : Nat} {x2 x3 x4 x5 x6 : Int32} {M : am_M} {Q : Option Value → am_H → Prop} : am_Wp (d + 1) 99 74 [.ref 17, .ref 18, .int x2, .int x3, .int x4, .int x5, .int x6] [] (hp nS M) Q = am_Wp d 94 0 [.ref 17, .ref 18, .int x4, .int x6, .int x5, .int x3, .retAddr 0] [] (hp nS M) (fun v h1 => am_Wp (d + 1) 99 86 [.ref 17, .ref 18, .int x2, .int x3, .int x4, .int x5, .int x6] (am_ans v []) h1 Q) := by
  refine (eq_run 6 (q := (83, [.ref 17, .ref 18, .int x2, .int x3, .int x4, .int x5, .int x6], [.int x3, .int x5, .int x6, .int x4, .ref 18, .ref 17], hp nS M)) (by with_unfolding_all rfl)).trans ?_
  exact eq_call2 (e := (.invokevirtual 178, 3, 0, 94, 179)) (as := [.ref 17, .ref 18, .int x4, .int x6, .int x5, .int x3]) (r := []) (n := 6) (m := 7) (by with_unfolding_all rfl) rfl (by decide) (by with_unfolding_all rfl) (by decide) (by with_unfolding_all rfl) ⟨fun _ => am_rec_ok (c := 11) (by with_unfolding_all rfl) (by decide +kernel), fun z => by simp at z⟩
set_option maxRecDepth 20000 in
theorem b_99_86 {d nS : Nat} {x2 x3 x4 x5 x6 : Int32} {M : am_M} {Q : Option Value → am_H → Prop} : am_Wp d 99 86 [.ref 17, .ref 18, .int x2, .int x3, .int x4, .int x5, .int x6] [] (hp nS M) Q = Q none (hp nS M) := by
  exact eq_retV2 (e := (.return_, 1, 0, 0, 0)) (by with_unfolding_all rfl) rfl (by with_unfolding_all rfl)
-- LarkExchange$Town deals(LLarkExchange$World;IZ)V (99, (17, 101, None, None))
set_option maxRecDepth 20000 in
theorem b_99i1_0 {d nS : Nat} {x2 x3 : Int32} {M : am_M} {Q : Option Value → am_H → Prop} : am_Wp (d + 1) 99 0 [.ref 17, .ref 101, .int x2, .int x3, .retAddr 0, .retAddr 0, .retAddr 0] [] (hp nS M) Q = am_Wp d 33 0 [.ref 41, .int x2, .int 1] [] (hp nS M) (fun v h1 => am_Wp (d + 1) 99 9 [.ref 17, .ref 101, .int x2, .int x3, .retAddr 0, .retAddr 0, .retAddr 0] (am_ans v []) h1 Q) := by
  refine (eq_run 4 (q := (6, [.ref 17, .ref 101, .int x2, .int x3, .retAddr 0, .retAddr 0, .retAddr 0], [.int 1, .int x2, .ref 41], hp nS M)) (by with_unfolding_all rfl)).trans ?_
  exact eq_call2 (e := (.invokevirtual 106, 3, 0, 33, 166)) (as := [.ref 41, .int x2, .int 1]) (r := []) (n := 3) (m := 3) (by with_unfolding_all rfl) rfl (by decide) (by with_unfolding_all rfl) (by decide) (by with_unfolding_all rfl) ⟨fun _ => am_rec_ok (c := 6) (by with_unfolding_all rfl) (by decide +kernel), fun z => by simp at z⟩
set_option maxRecDepth 20000 in
theorem b_99i1_9 {d nS : Nat} {x2 x3 s0 : Int32} {M : am_M} {Q : Option Value → am_H → Prop} : am_Wp (d + 1) 99 9 [.ref 17, .ref 101, .int x2, .int x3, .retAddr 0, .retAddr 0, .retAddr 0] [.int s0] (hp nS M) Q = am_Wp d 33 0 [.ref 41, .int x2, .int 3] [] (hp nS M) (fun v h1 => am_Wp (d + 1) 99 20 [.ref 17, .ref 101, .int x2, .int x3, .int s0, .retAddr 0, .retAddr 0] (am_ans v []) h1 Q) := by
  refine (eq_run 5 (q := (17, [.ref 17, .ref 101, .int x2, .int x3, .int s0, .retAddr 0, .retAddr 0], [.int 3, .int x2, .ref 41], hp nS M)) (by with_unfolding_all rfl)).trans ?_
  exact eq_call2 (e := (.invokevirtual 106, 3, 0, 33, 166)) (as := [.ref 41, .int x2, .int 3]) (r := []) (n := 3) (m := 3) (by with_unfolding_all rfl) rfl (by decide) (by with_unfolding_all rfl) (by decide) (by with_unfolding_all rfl) ⟨fun _ => am_rec_ok (c := 6) (by with_unfolding_all rfl) (by decide +kernel), fun z => by simp at z⟩
set_option maxRecDepth 20000 in
theorem b_99i1_20 {d nS : Nat} {x2 x3 x4 s0 : Int32} {M : am_M} {Q : Option Value → am_H → Prop} : am_Wp (d + 1) 99 20 [.ref 17, .ref 101, .int x2, .int x3, .int x4, .retAddr 0, .retAddr 0] [.int s0] (hp nS M) Q = am_Wp d 33 0 [.ref 41, .int x2, .int 4] [] (hp nS M) (fun v h1 => am_Wp (d + 1) 99 31 [.ref 17, .ref 101, .int x2, .int x3, .int x4, .int s0, .retAddr 0] (am_ans v []) h1 Q) := by
  refine (eq_run 5 (q := (28, [.ref 17, .ref 101, .int x2, .int x3, .int x4, .int s0, .retAddr 0], [.int 4, .int x2, .ref 41], hp nS M)) (by with_unfolding_all rfl)).trans ?_
  exact eq_call2 (e := (.invokevirtual 106, 3, 0, 33, 166)) (as := [.ref 41, .int x2, .int 4]) (r := []) (n := 3) (m := 3) (by with_unfolding_all rfl) rfl (by decide) (by with_unfolding_all rfl) (by decide) (by with_unfolding_all rfl) ⟨fun _ => am_rec_ok (c := 6) (by with_unfolding_all rfl) (by decide +kernel), fun z => by simp at z⟩
set_option maxRecDepth 20000 in
theorem b_99i1_31 {d nS : Nat} {x2 x3 x4 x5 s0 : Int32} {M : am_M} {Q : Option Value → am_H → Prop} : am_Wp (d + 1) 99 31 [.ref 17, .ref 101, .int x2, .int x3, .int x4, .int x5, .retAddr 0] [.int s0] (hp nS M) Q = am_Wp d 108 0 [.ref 101, .int x4, .int s0] [] (hp nS M) (fun v h1 => am_Wp (d + 1) 99 41 [.ref 17, .ref 101, .int x2, .int x3, .int x4, .int x5, .int s0] (am_ans v []) h1 Q) := by
  refine (eq_run 4 (q := (38, [.ref 17, .ref 101, .int x2, .int x3, .int x4, .int x5, .int s0], [.int s0, .int x4, .ref 101], hp nS M)) (by with_unfolding_all rfl)).trans ?_
  exact eq_call2 (e := (.invokevirtual 171, 3, 0, 108, 177)) (as := [.ref 101, .int x4, .int s0]) (r := []) (n := 3) (m := 3) (by with_unfolding_all rfl) rfl (by decide) (by with_unfolding_all rfl) (by decide) (by with_unfolding_all rfl) ⟨fun _ => am_rec_ok (c := 12) (by with_unfolding_all rfl) (by decide +kernel), fun z => by simp at z⟩
set_option maxRecDepth 20000 in
theorem b_99i1_41 {d nS : Nat} {x2 x3 x4 x5 x6 s0 : Int32} {M : am_M} {Q : Option Value → am_H → Prop} : am_Wp d 99 41 [.ref 17, .ref 101, .int x2, .int x3, .int x4, .int x5, .int x6] [.int s0] (hp nS M) Q = if ¬ s0 = 0 then am_Wp d 99 45 [.ref 17, .ref 101, .int x2, .int x3, .int x4, .int x5, .int x6] [] (hp nS M) Q else am_Wp d 99 44 [.ref 17, .ref 101, .int x2, .int x3, .int x4, .int x5, .int x6] [] (hp nS M) Q := by
  exact eq_if_ne (by with_unfolding_all rfl)
set_option maxRecDepth 20000 in
theorem b_99i1_44 {d nS : Nat} {x2 x3 x4 x5 x6 : Int32} {M : am_M} {Q : Option Value → am_H → Prop} : am_Wp d 99 44 [.ref 17, .ref 101, .int x2, .int x3, .int x4, .int x5, .int x6] [] (hp nS M) Q = Q none (hp nS M) := by
  exact eq_retV2 (e := (.return_, 1, 0, 0, 0)) (by with_unfolding_all rfl) rfl (by with_unfolding_all rfl)
set_option maxRecDepth 20000 in
theorem b_99i1_45 {d nS : Nat} {x2 x3 x4 x5 x6 : Int32} {M : am_M} {Q : Option Value → am_H → Prop} : am_Wp (d + 1) 99 45 [.ref 17, .ref 101, .int x2, .int x3, .int x4, .int x5, .int x6] [] (hp nS M) Q = am_Wp d 33 0 [.ref 41, .int x2, .int 2] [] (hp nS M) (fun v h1 => am_Wp (d + 1) 99 54 [.ref 17, .ref 101, .int x2, .int x3, .int x4, .int x5, .int x6] (am_ans v []) h1 Q) := by
  refine (eq_run 4 (q := (51, [.ref 17, .ref 101, .int x2, .int x3, .int x4, .int x5, .int x6], [.int 2, .int x2, .ref 41], hp nS M)) (by with_unfolding_all rfl)).trans ?_
  exact eq_call2 (e := (.invokevirtual 106, 3, 0, 33, 166)) (as := [.ref 41, .int x2, .int 2]) (r := []) (n := 3) (m := 3) (by with_unfolding_all rfl) rfl (by decide) (by with_unfolding_all rfl) (by decide) (by with_unfolding_all rfl) ⟨fun _ => am_rec_ok (c := 6) (by with_unfolding_all rfl) (by decide +kernel), fun z => by simp at z⟩
set_option maxRecDepth 20000 in
theorem b_99i1_54 {d nS : Nat} {x2 x3 x4 x5 x6 s0 : Int32} {M : am_M} {Q : Option Value → am_H → Prop} : am_Wp d 99 54 [.ref 17, .ref 101, .int x2, .int x3, .int x4, .int x5, .int x6] [.int s0] (hp nS M) Q = if ¬ s0 = 21 then am_Wp d 99 74 [.ref 17, .ref 101, .int x2, .int x3, .int x4, .int x5, .int x6] [] (hp nS M) Q else am_Wp d 99 59 [.ref 17, .ref 101, .int x2, .int x3, .int x4, .int x5, .int x6] [] (hp nS M) Q := by
  refine (eq_run 1 (q := (56, [.ref 17, .ref 101, .int x2, .int x3, .int x4, .int x5, .int x6], [.int 21, .int s0], hp nS M)) (by with_unfolding_all rfl)).trans ?_
  exact eq_cmp_ne (by with_unfolding_all rfl)
set_option maxRecDepth 20000 in
theorem b_99i1_59 {d nS : Nat} {x2 x3 x4 x5 x6 : Int32} {M : am_M} {Q : Option Value → am_H → Prop} : am_Wp (d + 1) 99 59 [.ref 17, .ref 101, .int x2, .int x3, .int x4, .int x5, .int x6] [] (hp nS M) Q = am_Wp d 92 0 [.ref 17, .ref 101, .int x4, .int x6, .int x5, .int x3, .retAddr 0] [] (hp nS M) (fun v h1 => am_Wp (d + 1) 99 71 [.ref 17, .ref 101, .int x2, .int x3, .int x4, .int x5, .int x6] (am_ans v []) h1 Q) := by
  refine (eq_run 6 (q := (68, [.ref 17, .ref 101, .int x2, .int x3, .int x4, .int x5, .int x6], [.int x3, .int x5, .int x6, .int x4, .ref 101, .ref 17], hp nS M)) (by with_unfolding_all rfl)).trans ?_
  exact eq_call2 (e := (.invokevirtual 175, 3, 0, 92, 178)) (as := [.ref 17, .ref 101, .int x4, .int x6, .int x5, .int x3]) (r := []) (n := 6) (m := 7) (by with_unfolding_all rfl) rfl (by decide) (by with_unfolding_all rfl) (by decide) (by with_unfolding_all rfl) ⟨fun _ => am_rec_ok (c := 11) (by with_unfolding_all rfl) (by decide +kernel), fun z => by simp at z⟩
set_option maxRecDepth 20000 in
theorem b_99i1_71 {d nS : Nat} {x2 x3 x4 x5 x6 : Int32} {M : am_M} {Q : Option Value → am_H → Prop} : am_Wp d 99 71 [.ref 17, .ref 101, .int x2, .int x3, .int x4, .int x5, .int x6] [] (hp nS M) Q = am_Wp d 99 86 [.ref 17, .ref 101, .int x2, .int x3, .int x4, .int x5, .int x6] [] (hp nS M) Q := by
  exact eq_run 1 (q := (86, [.ref 17, .ref 101, .int x2, .int x3, .int x4, .int x5, .int x6], [], hp nS M)) (by with_unfolding_all rfl)
set_option maxRecDepth 20000 in
theorem b_99i1_74 {d nS : Nat} {x2 x3 x4 x5 x6 : Int32} {M : am_M} {Q : Option Value → am_H → Prop} : am_Wp (d + 1) 99 74 [.ref 17, .ref 101, .int x2, .int x3, .int x4, .int x5, .int x6] [] (hp nS M) Q = am_Wp d 94 0 [.ref 17, .ref 101, .int x4, .int x6, .int x5, .int x3, .retAddr 0] [] (hp nS M) (fun v h1 => am_Wp (d + 1) 99 86 [.ref 17, .ref 101, .int x2, .int x3, .int x4, .int x5, .int x6] (am_ans v []) h1 Q) := by
  refine (eq_run 6 (q := (83, [.ref 17, .ref 101, .int x2, .int x3, .int x4, .int x5, .int x6], [.int x3, .int x5, .int x6, .int x4, .ref 101, .ref 17], hp nS M)) (by with_unfolding_all rfl)).trans ?_
  exact eq_call2 (e := (.invokevirtual 178, 3, 0, 94, 179)) (as := [.ref 17, .ref 101, .int x4, .int x6, .int x5, .int x3]) (r := []) (n := 6) (m := 7) (by with_unfolding_all rfl) rfl (by decide) (by with_unfolding_all rfl) (by decide) (by with_unfolding_all rfl) ⟨fun _ => am_rec_ok (c := 11) (by with_unfolding_all rfl) (by decide +kernel), fun z => by simp at z⟩
set_option maxRecDepth 20000 in
theorem b_99i1_86 {d nS : Nat} {x2 x3 x4 x5 x6 : Int32} {M : am_M} {Q : Option Value → am_H → Prop} : am_Wp d 99 86 [.ref 17, .ref 101, .int x2, .int x3, .int x4, .int x5, .int x6] [] (hp nS M) Q = Q none (hp nS M) := by
  exact eq_retV2 (e := (.return_, 1, 0, 0, 0)) (by with_unfolding_all rfl) rfl (by with_unfolding_all rfl)
-- LarkExchange$Town ruins(LLarkExchange$World;Z)V (100, (17, 18, None))
set_option maxRecDepth 20000 in
theorem b_100_0 {d nS : Nat} {x2 : Int32} {M : am_M} {Q : Option Value → am_H → Prop} : am_Wp (d + 1) 100 0 [.ref 17, .ref 18, .int x2, .retAddr 0, .retAddr 0] [] (hp nS M) Q = am_Wp d 116 0 [.ref 18, .retAddr 0, .retAddr 0] [] (hp nS M) (fun v h1 => am_Wp (d + 1) 100 4 [.ref 17, .ref 18, .int x2, .retAddr 0, .retAddr 0] (am_ans v []) h1 Q) := by
  refine (eq_run 1 (q := (1, [.ref 17, .ref 18, .int x2, .retAddr 0, .retAddr 0], [.ref 18], hp nS M)) (by with_unfolding_all rfl)).trans ?_
  exact eq_call2 (e := (.invokevirtual 191, 3, 0, 116, 183)) (as := [.ref 18]) (r := []) (n := 1) (m := 3) (by with_unfolding_all rfl) rfl (by decide) (by with_unfolding_all rfl) (by decide) (by with_unfolding_all rfl) ⟨fun _ => am_rec_ok (c := 12) (by with_unfolding_all rfl) (by decide +kernel), fun z => by simp at z⟩
set_option maxRecDepth 20000 in
theorem b_100_4 {d nS : Nat} {x2 s0 : Int32} {M : am_M} {Q : Option Value → am_H → Prop} : am_Wp d 100 4 [.ref 17, .ref 18, .int x2, .retAddr 0, .retAddr 0] [.int s0] (hp nS M) Q = am_Wp d 100 8 [.ref 17, .ref 18, .int x2, .int s0, .int 0] [] (hp nS M) Q := by
  exact eq_run 3 (q := (8, [.ref 17, .ref 18, .int x2, .int s0, .int 0], [], hp nS M)) (by with_unfolding_all rfl)
set_option maxRecDepth 20000 in
theorem b_100_8 {d nS : Nat} {x2 x3 x4 : Int32} {M : am_M} {Q : Option Value → am_H → Prop} : am_Wp d 100 8 [.ref 17, .ref 18, .int x2, .int x3, .int x4] [] (hp nS M) Q = if (M 18 2) ≤ x4 then am_Wp d 100 57 [.ref 17, .ref 18, .int x2, .int x3, .int x4] [] (hp nS M) Q else am_Wp d 100 17 [.ref 17, .ref 18, .int x2, .int x3, .int x4] [] (hp nS M) Q := by
  refine (eq_run 3 (q := (14, [.ref 17, .ref 18, .int x2, .int x3, .int x4], [.int (M 18 2), .int x4], hp nS M)) (by with_unfolding_all rfl)).trans ?_
  exact eq_cmp_ge (by with_unfolding_all rfl)
set_option maxRecDepth 20000 in
theorem b_100_17 {d nS : Nat} {x2 x3 x4 : Int32} {M : am_M} {Q : Option Value → am_H → Prop} : am_Wp (d + 1) 100 17 [.ref 17, .ref 18, .int x2, .int x3, .int x4] [] (hp nS M) Q = am_Wp d 117 0 [.ref 18, .int x4, .int x3, .retAddr 0] [] (hp nS M) (fun v h1 => am_Wp (d + 1) 100 24 [.ref 17, .ref 18, .int x2, .int x3, .int x4] (am_ans v []) h1 Q) := by
  refine (eq_run 3 (q := (21, [.ref 17, .ref 18, .int x2, .int x3, .int x4], [.int x3, .int x4, .ref 18], hp nS M)) (by with_unfolding_all rfl)).trans ?_
  exact eq_call2 (e := (.invokevirtual 198, 3, 0, 117, 184)) (as := [.ref 18, .int x4, .int x3]) (r := []) (n := 3) (m := 4) (by with_unfolding_all rfl) rfl (by decide) (by with_unfolding_all rfl) (by decide) (by with_unfolding_all rfl) ⟨fun _ => am_rec_ok (c := 12) (by with_unfolding_all rfl) (by decide +kernel), fun z => by simp at z⟩
set_option maxRecDepth 20000 in
theorem b_100_24 {d nS : Nat} {x2 x3 x4 s0 : Int32} {M : am_M} {Q : Option Value → am_H → Prop} : am_Wp d 100 24 [.ref 17, .ref 18, .int x2, .int x3, .int x4] [.int s0] (hp nS M) Q = if s0 = 0 then am_Wp d 100 51 [.ref 17, .ref 18, .int x2, .int x3, .int x4] [] (hp nS M) Q else am_Wp d 100 27 [.ref 17, .ref 18, .int x2, .int x3, .int x4] [] (hp nS M) Q := by
  exact eq_if_eq (by with_unfolding_all rfl)
set_option maxRecDepth 20000 in
theorem b_100_27 {d nS : Nat} {x2 x3 x4 : Int32} {M : am_M} {Q : Option Value → am_H → Prop} (h1 : vp_in x4 10) (h2 : vp_in x4 10) : am_Wp (d + 1) 100 27 [.ref 17, .ref 18, .int x2, .int x3, .int x4] [] (hp nS M) Q = am_Wp d 93 0 [.ref 17, .ref 18, .int 4, .int x4, .int ((am_up M 28 x4.toNatClampNeg 1) 27 x4.toNatClampNeg), .int x2, .retAddr 0] [] (hp nS (am_up M 28 x4.toNatClampNeg 1)) (fun v h1 => am_Wp (d + 1) 100 51 [.ref 17, .ref 18, .int x2, .int x3, .int x4] (am_ans v []) h1 Q) := by
  refine (eq_run 4 (q := (34, [.ref 17, .ref 18, .int x2, .int x3, .int x4], [.int 1, .int x4, .ref 28], hp nS M)) (by with_unfolding_all rfl)).trans ?_
  refine (eq_ast (e := (.iastore, 1, 0, 0, 0)) (by with_unfolding_all rfl) rfl (n := 10) (by with_unfolding_all rfl) (by decide) h1).trans ?_
  refine (eq_run 7 (q := (46, [.ref 17, .ref 18, .int x2, .int x3, .int x4], [.int x4, .ref 27, .int x4, .int 4, .ref 18, .ref 17], hp nS (am_up M 28 x4.toNatClampNeg 1))) (by with_unfolding_all rfl)).trans ?_
  refine (eq_ald (e := (.iaload, 1, 0, 0, 0)) (by with_unfolding_all rfl) rfl (n := 10) (by with_unfolding_all rfl) h2).trans ?_
  refine (eq_run 1 (q := (48, [.ref 17, .ref 18, .int x2, .int x3, .int x4], [.int x2, .int ((am_up M 28 x4.toNatClampNeg 1) 27 x4.toNatClampNeg), .int x4, .int 4, .ref 18, .ref 17], hp nS (am_up M 28 x4.toNatClampNeg 1))) (by with_unfolding_all rfl)).trans ?_
  exact eq_call2 (e := (.invokevirtual 155, 3, 0, 93, 175)) (as := [.ref 17, .ref 18, .int 4, .int x4, .int ((am_up M 28 x4.toNatClampNeg 1) 27 x4.toNatClampNeg), .int x2]) (r := []) (n := 6) (m := 7) (by with_unfolding_all rfl) rfl (by decide) (by with_unfolding_all rfl) (by decide) (by with_unfolding_all rfl) ⟨fun _ => am_rec_ok (c := 11) (by with_unfolding_all rfl) (by decide +kernel), fun z => by simp at z⟩
set_option maxRecDepth 20000 in
theorem b_100_51 {d nS : Nat} {x2 x3 x4 : Int32} {M : am_M} {Q : Option Value → am_H → Prop} : am_Wp d 100 51 [.ref 17, .ref 18, .int x2, .int x3, .int x4] [] (hp nS M) Q = am_Wp d 100 8 [.ref 17, .ref 18, .int x2, .int x3, .int (x4 + 1)] [] (hp nS M) Q := by
  exact eq_run 2 (q := (8, [.ref 17, .ref 18, .int x2, .int x3, .int (x4 + 1)], [], hp nS M)) (by with_unfolding_all rfl)
set_option maxRecDepth 20000 in
theorem b_100_57 {d nS : Nat} {x2 x3 x4 : Int32} {M : am_M} {Q : Option Value → am_H → Prop} : am_Wp d 100 57 [.ref 17, .ref 18, .int x2, .int x3, .int x4] [] (hp nS M) Q = Q none (hp nS M) := by
  exact eq_retV2 (e := (.return_, 1, 0, 0, 0)) (by with_unfolding_all rfl) rfl (by with_unfolding_all rfl)
-- LarkExchange$Town ruins(LLarkExchange$World;Z)V (100, (17, 101, None))
set_option maxRecDepth 20000 in
theorem b_100i1_0 {d nS : Nat} {x2 : Int32} {M : am_M} {Q : Option Value → am_H → Prop} : am_Wp (d + 1) 100 0 [.ref 17, .ref 101, .int x2, .retAddr 0, .retAddr 0] [] (hp nS M) Q = am_Wp d 116 0 [.ref 101, .retAddr 0, .retAddr 0] [] (hp nS M) (fun v h1 => am_Wp (d + 1) 100 4 [.ref 17, .ref 101, .int x2, .retAddr 0, .retAddr 0] (am_ans v []) h1 Q) := by
  refine (eq_run 1 (q := (1, [.ref 17, .ref 101, .int x2, .retAddr 0, .retAddr 0], [.ref 101], hp nS M)) (by with_unfolding_all rfl)).trans ?_
  exact eq_call2 (e := (.invokevirtual 191, 3, 0, 116, 183)) (as := [.ref 101]) (r := []) (n := 1) (m := 3) (by with_unfolding_all rfl) rfl (by decide) (by with_unfolding_all rfl) (by decide) (by with_unfolding_all rfl) ⟨fun _ => am_rec_ok (c := 12) (by with_unfolding_all rfl) (by decide +kernel), fun z => by simp at z⟩
set_option maxRecDepth 20000 in
theorem b_100i1_4 {d nS : Nat} {x2 s0 : Int32} {M : am_M} {Q : Option Value → am_H → Prop} : am_Wp d 100 4 [.ref 17, .ref 101, .int x2, .retAddr 0, .retAddr 0] [.int s0] (hp nS M) Q = am_Wp d 100 8 [.ref 17, .ref 101, .int x2, .int s0, .int 0] [] (hp nS M) Q := by
  exact eq_run 3 (q := (8, [.ref 17, .ref 101, .int x2, .int s0, .int 0], [], hp nS M)) (by with_unfolding_all rfl)
set_option maxRecDepth 20000 in
theorem b_100i1_8 {d nS : Nat} {x2 x3 x4 : Int32} {M : am_M} {Q : Option Value → am_H → Prop} : am_Wp d 100 8 [.ref 17, .ref 101, .int x2, .int x3, .int x4] [] (hp nS M) Q = if (M 101 2) ≤ x4 then am_Wp d 100 57 [.ref 17, .ref 101, .int x2, .int x3, .int x4] [] (hp nS M) Q else am_Wp d 100 17 [.ref 17, .ref 101, .int x2, .int x3, .int x4] [] (hp nS M) Q := by
  refine (eq_run 3 (q := (14, [.ref 17, .ref 101, .int x2, .int x3, .int x4], [.int (M 101 2), .int x4], hp nS M)) (by with_unfolding_all rfl)).trans ?_
  exact eq_cmp_ge (by with_unfolding_all rfl)
set_option maxRecDepth 20000 in
theorem b_100i1_17 {d nS : Nat} {x2 x3 x4 : Int32} {M : am_M} {Q : Option Value → am_H → Prop} : am_Wp (d + 1) 100 17 [.ref 17, .ref 101, .int x2, .int x3, .int x4] [] (hp nS M) Q = am_Wp d 117 0 [.ref 101, .int x4, .int x3, .retAddr 0] [] (hp nS M) (fun v h1 => am_Wp (d + 1) 100 24 [.ref 17, .ref 101, .int x2, .int x3, .int x4] (am_ans v []) h1 Q) := by
  refine (eq_run 3 (q := (21, [.ref 17, .ref 101, .int x2, .int x3, .int x4], [.int x3, .int x4, .ref 101], hp nS M)) (by with_unfolding_all rfl)).trans ?_
  exact eq_call2 (e := (.invokevirtual 198, 3, 0, 117, 184)) (as := [.ref 101, .int x4, .int x3]) (r := []) (n := 3) (m := 4) (by with_unfolding_all rfl) rfl (by decide) (by with_unfolding_all rfl) (by decide) (by with_unfolding_all rfl) ⟨fun _ => am_rec_ok (c := 12) (by with_unfolding_all rfl) (by decide +kernel), fun z => by simp at z⟩
set_option maxRecDepth 20000 in
theorem b_100i1_24 {d nS : Nat} {x2 x3 x4 s0 : Int32} {M : am_M} {Q : Option Value → am_H → Prop} : am_Wp d 100 24 [.ref 17, .ref 101, .int x2, .int x3, .int x4] [.int s0] (hp nS M) Q = if s0 = 0 then am_Wp d 100 51 [.ref 17, .ref 101, .int x2, .int x3, .int x4] [] (hp nS M) Q else am_Wp d 100 27 [.ref 17, .ref 101, .int x2, .int x3, .int x4] [] (hp nS M) Q := by
  exact eq_if_eq (by with_unfolding_all rfl)
set_option maxRecDepth 20000 in
theorem b_100i1_27 {d nS : Nat} {x2 x3 x4 : Int32} {M : am_M} {Q : Option Value → am_H → Prop} (h1 : vp_in x4 10) (h2 : vp_in x4 10) : am_Wp (d + 1) 100 27 [.ref 17, .ref 101, .int x2, .int x3, .int x4] [] (hp nS M) Q = am_Wp d 93 0 [.ref 17, .ref 101, .int 4, .int x4, .int ((am_up M 111 x4.toNatClampNeg 1) 110 x4.toNatClampNeg), .int x2, .retAddr 0] [] (hp nS (am_up M 111 x4.toNatClampNeg 1)) (fun v h1 => am_Wp (d + 1) 100 51 [.ref 17, .ref 101, .int x2, .int x3, .int x4] (am_ans v []) h1 Q) := by
  refine (eq_run 4 (q := (34, [.ref 17, .ref 101, .int x2, .int x3, .int x4], [.int 1, .int x4, .ref 111], hp nS M)) (by with_unfolding_all rfl)).trans ?_
  refine (eq_ast (e := (.iastore, 1, 0, 0, 0)) (by with_unfolding_all rfl) rfl (n := 10) (by with_unfolding_all rfl) (by decide) h1).trans ?_
  refine (eq_run 7 (q := (46, [.ref 17, .ref 101, .int x2, .int x3, .int x4], [.int x4, .ref 110, .int x4, .int 4, .ref 101, .ref 17], hp nS (am_up M 111 x4.toNatClampNeg 1))) (by with_unfolding_all rfl)).trans ?_
  refine (eq_ald (e := (.iaload, 1, 0, 0, 0)) (by with_unfolding_all rfl) rfl (n := 10) (by with_unfolding_all rfl) h2).trans ?_
  refine (eq_run 1 (q := (48, [.ref 17, .ref 101, .int x2, .int x3, .int x4], [.int x2, .int ((am_up M 111 x4.toNatClampNeg 1) 110 x4.toNatClampNeg), .int x4, .int 4, .ref 101, .ref 17], hp nS (am_up M 111 x4.toNatClampNeg 1))) (by with_unfolding_all rfl)).trans ?_
  exact eq_call2 (e := (.invokevirtual 155, 3, 0, 93, 175)) (as := [.ref 17, .ref 101, .int 4, .int x4, .int ((am_up M 111 x4.toNatClampNeg 1) 110 x4.toNatClampNeg), .int x2]) (r := []) (n := 6) (m := 7) (by with_unfolding_all rfl) rfl (by decide) (by with_unfolding_all rfl) (by decide) (by with_unfolding_all rfl) ⟨fun _ => am_rec_ok (c := 11) (by with_unfolding_all rfl) (by decide +kernel), fun z => by simp at z⟩
set_option maxRecDepth 20000 in
theorem b_100i1_51 {d nS : Nat} {x2 x3 x4 : Int32} {M : am_M} {Q : Option Value → am_H → Prop} : am_Wp d 100 51 [.ref 17, .ref 101, .int x2, .int x3, .int x4] [] (hp nS M) Q = am_Wp d 100 8 [.ref 17, .ref 101, .int x2, .int x3, .int (x4 + 1)] [] (hp nS M) Q := by
  exact eq_run 2 (q := (8, [.ref 17, .ref 101, .int x2, .int x3, .int (x4 + 1)], [], hp nS M)) (by with_unfolding_all rfl)
set_option maxRecDepth 20000 in
theorem b_100i1_57 {d nS : Nat} {x2 x3 x4 : Int32} {M : am_M} {Q : Option Value → am_H → Prop} : am_Wp d 100 57 [.ref 17, .ref 101, .int x2, .int x3, .int x4] [] (hp nS M) Q = Q none (hp nS M) := by
  exact eq_retV2 (e := (.return_, 1, 0, 0, 0)) (by with_unfolding_all rfl) rfl (by with_unfolding_all rfl)
-- LarkExchange$Town copyFrom(LLarkExchange$Town;)V (101, (59, 17))
set_option maxRecDepth 20000 in
theorem b_101_0 {d nS : Nat} {M : am_M} {Q : Option Value → am_H → Prop} : am_Wp (d + 1) 101 0 [.ref 59, .ref 17] [] (hp nS M) Q = am_Wp d 111 0 [.ref 60, .ref 18] [] (hp nS M) (fun v h1 => am_Wp (d + 1) 101 11 [.ref 59, .ref 17] (am_ans v []) h1 Q) := by
  refine (eq_run 4 (q := (8, [.ref 59, .ref 17], [.ref 18, .ref 60], hp nS M)) (by with_unfolding_all rfl)).trans ?_
  exact eq_call2 (e := (.invokevirtual 63, 3, 0, 111, 156)) (as := [.ref 60, .ref 18]) (r := []) (n := 2) (m := 2) (by with_unfolding_all rfl) rfl (by decide) (by with_unfolding_all rfl) (by decide) (by with_unfolding_all rfl) ⟨fun _ => am_rec_ok (c := 12) (by with_unfolding_all rfl) (by decide +kernel), fun z => by simp at z⟩
set_option maxRecDepth 20000 in
theorem b_101_11 {d nS : Nat} {M : am_M} {Q : Option Value → am_H → Prop} : am_Wp (d + 1) 101 11 [.ref 59, .ref 17] [] (hp nS M) Q = am_Wp d 131 0 [.ref 30, .ref 72] [] (hp nS M) (fun v h1 => am_Wp (d + 1) 101 22 [.ref 59, .ref 17] (am_ans v []) h1 Q) := by
  refine (eq_run 4 (q := (19, [.ref 59, .ref 17], [.ref 72, .ref 30], hp nS M)) (by with_unfolding_all rfl)).trans ?_
  exact eq_call2 (e := (.invokestatic 67, 3, 3, 131, 157)) (as := [.ref 30, .ref 72]) (r := []) (n := 2) (m := 2) (by with_unfolding_all rfl) rfl (by decide) (by with_unfolding_all rfl) (by decide) (by with_unfolding_all rfl) ⟨fun z => absurd z (by decide), fun z => by simp at z⟩
set_option maxRecDepth 20000 in
theorem b_101_22 {d nS : Nat} {M : am_M} {Q : Option Value → am_H → Prop} : am_Wp (d + 1) 101 22 [.ref 59, .ref 17] [] (hp nS M) Q = am_Wp d 31 0 [.ref 73, .ref 31] [] (hp nS M) (fun v h1 => am_Wp (d + 1) 101 33 [.ref 59, .ref 17] (am_ans v []) h1 Q) := by
  refine (eq_run 4 (q := (30, [.ref 59, .ref 17], [.ref 31, .ref 73], hp nS M)) (by with_unfolding_all rfl)).trans ?_
  exact eq_call2 (e := (.invokevirtual 71, 3, 0, 31, 158)) (as := [.ref 73, .ref 31]) (r := []) (n := 2) (m := 2) (by with_unfolding_all rfl) rfl (by decide) (by with_unfolding_all rfl) (by decide) (by with_unfolding_all rfl) ⟨fun _ => am_rec_ok (c := 5) (by with_unfolding_all rfl) (by decide +kernel), fun z => by simp at z⟩
set_option maxRecDepth 20000 in
theorem b_101_33 {d nS : Nat} {M : am_M} {Q : Option Value → am_H → Prop} : am_Wp (d + 1) 101 33 [.ref 59, .ref 17] [] (hp nS M) Q = am_Wp d 35 0 [.ref 81, .ref 39] [] (hp nS M) (fun v h1 => am_Wp (d + 1) 101 44 [.ref 59, .ref 17] (am_ans v []) h1 Q) := by
  refine (eq_run 4 (q := (41, [.ref 59, .ref 17], [.ref 39, .ref 81], hp nS M)) (by with_unfolding_all rfl)).trans ?_
  exact eq_call2 (e := (.invokevirtual 74, 3, 0, 35, 159)) (as := [.ref 81, .ref 39]) (r := []) (n := 2) (m := 2) (by with_unfolding_all rfl) rfl (by decide) (by with_unfolding_all rfl) (by decide) (by with_unfolding_all rfl) ⟨fun _ => am_rec_ok (c := 6) (by with_unfolding_all rfl) (by decide +kernel), fun z => by simp at z⟩
set_option maxRecDepth 20000 in
theorem b_101_44 {d nS : Nat} {M : am_M} {Q : Option Value → am_H → Prop} : am_Wp (d + 1) 101 44 [.ref 59, .ref 17] [] (hp nS M) Q = am_Wp d 35 0 [.ref 83, .ref 41] [] (hp nS M) (fun v h1 => am_Wp (d + 1) 101 55 [.ref 59, .ref 17] (am_ans v []) h1 Q) := by
  refine (eq_run 4 (q := (52, [.ref 59, .ref 17], [.ref 41, .ref 83], hp nS M)) (by with_unfolding_all rfl)).trans ?_
  exact eq_call2 (e := (.invokevirtual 74, 3, 0, 35, 159)) (as := [.ref 83, .ref 41]) (r := []) (n := 2) (m := 2) (by with_unfolding_all rfl) rfl (by decide) (by with_unfolding_all rfl) (by decide) (by with_unfolding_all rfl) ⟨fun _ => am_rec_ok (c := 6) (by with_unfolding_all rfl) (by decide +kernel), fun z => by simp at z⟩
set_option maxRecDepth 20000 in
theorem b_101_55 {d nS : Nat} {M : am_M} {Q : Option Value → am_H → Prop} : am_Wp (d + 1) 101 55 [.ref 59, .ref 17] [] (hp nS M) Q = am_Wp d 35 0 [.ref 85, .ref 43] [] (hp nS M) (fun v h1 => am_Wp (d + 1) 101 66 [.ref 59, .ref 17] (am_ans v []) h1 Q) := by
  refine (eq_run 4 (q := (63, [.ref 59, .ref 17], [.ref 43, .ref 85], hp nS M)) (by with_unfolding_all rfl)).trans ?_
  exact eq_call2 (e := (.invokevirtual 74, 3, 0, 35, 159)) (as := [.ref 85, .ref 43]) (r := []) (n := 2) (m := 2) (by with_unfolding_all rfl) rfl (by decide) (by with_unfolding_all rfl) (by decide) (by with_unfolding_all rfl) ⟨fun _ => am_rec_ok (c := 6) (by with_unfolding_all rfl) (by decide +kernel), fun z => by simp at z⟩
set_option maxRecDepth 20000 in
theorem b_101_66 {d nS : Nat} {M : am_M} {Q : Option Value → am_H → Prop} : am_Wp (d + 1) 101 66 [.ref 59, .ref 17] [] (hp nS M) Q = am_Wp d 76 0 [.ref 87, .ref 45] [] (hp nS M) (fun v h1 => am_Wp (d + 1) 101 77 [.ref 59, .ref 17] (am_ans v []) h1 Q) := by
  refine (eq_run 4 (q := (74, [.ref 59, .ref 17], [.ref 45, .ref 87], hp nS M)) (by with_unfolding_all rfl)).trans ?_
  exact eq_call2 (e := (.invokevirtual 77, 3, 0, 76, 160)) (as := [.ref 87, .ref 45]) (r := []) (n := 2) (m := 2) (by with_unfolding_all rfl) rfl (by decide) (by with_unfolding_all rfl) (by decide) (by with_unfolding_all rfl) ⟨fun _ => am_rec_ok (c := 9) (by with_unfolding_all rfl) (by decide +kernel), fun z => by simp at z⟩
set_option maxRecDepth 20000 in
theorem b_101_77 {d nS : Nat} {M : am_M} {Q : Option Value → am_H → Prop} : am_Wp (d + 1) 101 77 [.ref 59, .ref 17] [] (hp nS M) Q = am_Wp d 18 0 [.ref 92, .ref 50] [] (hp nS M) (fun v h1 => am_Wp (d + 1) 101 88 [.ref 59, .ref 17] (am_ans v []) h1 Q) := by
  refine (eq_run 4 (q := (85, [.ref 59, .ref 17], [.ref 50, .ref 92], hp nS M)) (by with_unfolding_all rfl)).trans ?_
  exact eq_call2 (e := (.invokevirtual 80, 3, 0, 18, 161)) (as := [.ref 92, .ref 50]) (r := []) (n := 2) (m := 2) (by with_unfolding_all rfl) rfl (by decide) (by with_unfolding_all rfl) (by decide) (by with_unfolding_all rfl) ⟨fun _ => am_rec_ok (c := 4) (by with_unfolding_all rfl) (by decide +kernel), fun z => by simp at z⟩
set_option maxRecDepth 20000 in
theorem b_101_88 {d nS : Nat} {M : am_M} {Q : Option Value → am_H → Prop} : am_Wp (d + 1) 101 88 [.ref 59, .ref 17] [] (hp nS M) Q = am_Wp d 10 0 [.ref 96, .ref 54] [] (hp nS M) (fun v h1 => am_Wp (d + 1) 101 99 [.ref 59, .ref 17] (am_ans v []) h1 Q) := by
  refine (eq_run 4 (q := (96, [.ref 59, .ref 17], [.ref 54, .ref 96], hp nS M)) (by with_unfolding_all rfl)).trans ?_
  exact eq_call2 (e := (.invokevirtual 83, 3, 0, 10, 162)) (as := [.ref 96, .ref 54]) (r := []) (n := 2) (m := 2) (by with_unfolding_all rfl) rfl (by decide) (by with_unfolding_all rfl) (by decide) (by with_unfolding_all rfl) ⟨fun _ => am_rec_ok (c := 3) (by with_unfolding_all rfl) (by decide +kernel), fun z => by simp at z⟩
set_option maxRecDepth 20000 in
theorem b_101_99 {d nS : Nat} {M : am_M} {Q : Option Value → am_H → Prop} : am_Wp d 101 99 [.ref 59, .ref 17] [] (hp nS M) Q = Q none (hp nS M) := by
  exact eq_retV2 (e := (.return_, 1, 0, 0, 0)) (by with_unfolding_all rfl) rfl (by with_unfolding_all rfl)
-- LarkExchange$Town copyFrom(LLarkExchange$Town;)V (101, (17, 59))
set_option maxRecDepth 20000 in
theorem b_101i1_0 {d nS : Nat} {M : am_M} {Q : Option Value → am_H → Prop} : am_Wp (d + 1) 101 0 [.ref 17, .ref 59] [] (hp nS M) Q = am_Wp d 111 0 [.ref 18, .ref 60] [] (hp nS M) (fun v h1 => am_Wp (d + 1) 101 11 [.ref 17, .ref 59] (am_ans v []) h1 Q) := by
  refine (eq_run 4 (q := (8, [.ref 17, .ref 59], [.ref 60, .ref 18], hp nS M)) (by with_unfolding_all rfl)).trans ?_
  exact eq_call2 (e := (.invokevirtual 63, 3, 0, 111, 156)) (as := [.ref 18, .ref 60]) (r := []) (n := 2) (m := 2) (by with_unfolding_all rfl) rfl (by decide) (by with_unfolding_all rfl) (by decide) (by with_unfolding_all rfl) ⟨fun _ => am_rec_ok (c := 12) (by with_unfolding_all rfl) (by decide +kernel), fun z => by simp at z⟩
set_option maxRecDepth 20000 in
theorem b_101i1_11 {d nS : Nat} {M : am_M} {Q : Option Value → am_H → Prop} : am_Wp (d + 1) 101 11 [.ref 17, .ref 59] [] (hp nS M) Q = am_Wp d 131 0 [.ref 72, .ref 30] [] (hp nS M) (fun v h1 => am_Wp (d + 1) 101 22 [.ref 17, .ref 59] (am_ans v []) h1 Q) := by
  refine (eq_run 4 (q := (19, [.ref 17, .ref 59], [.ref 30, .ref 72], hp nS M)) (by with_unfolding_all rfl)).trans ?_
  exact eq_call2 (e := (.invokestatic 67, 3, 3, 131, 157)) (as := [.ref 72, .ref 30]) (r := []) (n := 2) (m := 2) (by with_unfolding_all rfl) rfl (by decide) (by with_unfolding_all rfl) (by decide) (by with_unfolding_all rfl) ⟨fun z => absurd z (by decide), fun z => by simp at z⟩
set_option maxRecDepth 20000 in
theorem b_101i1_22 {d nS : Nat} {M : am_M} {Q : Option Value → am_H → Prop} : am_Wp (d + 1) 101 22 [.ref 17, .ref 59] [] (hp nS M) Q = am_Wp d 31 0 [.ref 31, .ref 73] [] (hp nS M) (fun v h1 => am_Wp (d + 1) 101 33 [.ref 17, .ref 59] (am_ans v []) h1 Q) := by
  refine (eq_run 4 (q := (30, [.ref 17, .ref 59], [.ref 73, .ref 31], hp nS M)) (by with_unfolding_all rfl)).trans ?_
  exact eq_call2 (e := (.invokevirtual 71, 3, 0, 31, 158)) (as := [.ref 31, .ref 73]) (r := []) (n := 2) (m := 2) (by with_unfolding_all rfl) rfl (by decide) (by with_unfolding_all rfl) (by decide) (by with_unfolding_all rfl) ⟨fun _ => am_rec_ok (c := 5) (by with_unfolding_all rfl) (by decide +kernel), fun z => by simp at z⟩
set_option maxRecDepth 20000 in
theorem b_101i1_33 {d nS : Nat} {M : am_M} {Q : Option Value → am_H → Prop} : am_Wp (d + 1) 101 33 [.ref 17, .ref 59] [] (hp nS M) Q = am_Wp d 35 0 [.ref 39, .ref 81] [] (hp nS M) (fun v h1 => am_Wp (d + 1) 101 44 [.ref 17, .ref 59] (am_ans v []) h1 Q) := by
  refine (eq_run 4 (q := (41, [.ref 17, .ref 59], [.ref 81, .ref 39], hp nS M)) (by with_unfolding_all rfl)).trans ?_
  exact eq_call2 (e := (.invokevirtual 74, 3, 0, 35, 159)) (as := [.ref 39, .ref 81]) (r := []) (n := 2) (m := 2) (by with_unfolding_all rfl) rfl (by decide) (by with_unfolding_all rfl) (by decide) (by with_unfolding_all rfl) ⟨fun _ => am_rec_ok (c := 6) (by with_unfolding_all rfl) (by decide +kernel), fun z => by simp at z⟩
set_option maxRecDepth 20000 in
theorem b_101i1_44 {d nS : Nat} {M : am_M} {Q : Option Value → am_H → Prop} : am_Wp (d + 1) 101 44 [.ref 17, .ref 59] [] (hp nS M) Q = am_Wp d 35 0 [.ref 41, .ref 83] [] (hp nS M) (fun v h1 => am_Wp (d + 1) 101 55 [.ref 17, .ref 59] (am_ans v []) h1 Q) := by
  refine (eq_run 4 (q := (52, [.ref 17, .ref 59], [.ref 83, .ref 41], hp nS M)) (by with_unfolding_all rfl)).trans ?_
  exact eq_call2 (e := (.invokevirtual 74, 3, 0, 35, 159)) (as := [.ref 41, .ref 83]) (r := []) (n := 2) (m := 2) (by with_unfolding_all rfl) rfl (by decide) (by with_unfolding_all rfl) (by decide) (by with_unfolding_all rfl) ⟨fun _ => am_rec_ok (c := 6) (by with_unfolding_all rfl) (by decide +kernel), fun z => by simp at z⟩
set_option maxRecDepth 20000 in
theorem b_101i1_55 {d nS : Nat} {M : am_M} {Q : Option Value → am_H → Prop} : am_Wp (d + 1) 101 55 [.ref 17, .ref 59] [] (hp nS M) Q = am_Wp d 35 0 [.ref 43, .ref 85] [] (hp nS M) (fun v h1 => am_Wp (d + 1) 101 66 [.ref 17, .ref 59] (am_ans v []) h1 Q) := by
  refine (eq_run 4 (q := (63, [.ref 17, .ref 59], [.ref 85, .ref 43], hp nS M)) (by with_unfolding_all rfl)).trans ?_
  exact eq_call2 (e := (.invokevirtual 74, 3, 0, 35, 159)) (as := [.ref 43, .ref 85]) (r := []) (n := 2) (m := 2) (by with_unfolding_all rfl) rfl (by decide) (by with_unfolding_all rfl) (by decide) (by with_unfolding_all rfl) ⟨fun _ => am_rec_ok (c := 6) (by with_unfolding_all rfl) (by decide +kernel), fun z => by simp at z⟩
set_option maxRecDepth 20000 in
theorem b_101i1_66 {d nS : Nat} {M : am_M} {Q : Option Value → am_H → Prop} : am_Wp (d + 1) 101 66 [.ref 17, .ref 59] [] (hp nS M) Q = am_Wp d 76 0 [.ref 45, .ref 87] [] (hp nS M) (fun v h1 => am_Wp (d + 1) 101 77 [.ref 17, .ref 59] (am_ans v []) h1 Q) := by
  refine (eq_run 4 (q := (74, [.ref 17, .ref 59], [.ref 87, .ref 45], hp nS M)) (by with_unfolding_all rfl)).trans ?_
  exact eq_call2 (e := (.invokevirtual 77, 3, 0, 76, 160)) (as := [.ref 45, .ref 87]) (r := []) (n := 2) (m := 2) (by with_unfolding_all rfl) rfl (by decide) (by with_unfolding_all rfl) (by decide) (by with_unfolding_all rfl) ⟨fun _ => am_rec_ok (c := 9) (by with_unfolding_all rfl) (by decide +kernel), fun z => by simp at z⟩
set_option maxRecDepth 20000 in
theorem b_101i1_77 {d nS : Nat} {M : am_M} {Q : Option Value → am_H → Prop} : am_Wp (d + 1) 101 77 [.ref 17, .ref 59] [] (hp nS M) Q = am_Wp d 18 0 [.ref 50, .ref 92] [] (hp nS M) (fun v h1 => am_Wp (d + 1) 101 88 [.ref 17, .ref 59] (am_ans v []) h1 Q) := by
  refine (eq_run 4 (q := (85, [.ref 17, .ref 59], [.ref 92, .ref 50], hp nS M)) (by with_unfolding_all rfl)).trans ?_
  exact eq_call2 (e := (.invokevirtual 80, 3, 0, 18, 161)) (as := [.ref 50, .ref 92]) (r := []) (n := 2) (m := 2) (by with_unfolding_all rfl) rfl (by decide) (by with_unfolding_all rfl) (by decide) (by with_unfolding_all rfl) ⟨fun _ => am_rec_ok (c := 4) (by with_unfolding_all rfl) (by decide +kernel), fun z => by simp at z⟩
set_option maxRecDepth 20000 in
theorem b_101i1_88 {d nS : Nat} {M : am_M} {Q : Option Value → am_H → Prop} : am_Wp (d + 1) 101 88 [.ref 17, .ref 59] [] (hp nS M) Q = am_Wp d 10 0 [.ref 54, .ref 96] [] (hp nS M) (fun v h1 => am_Wp (d + 1) 101 99 [.ref 17, .ref 59] (am_ans v []) h1 Q) := by
  refine (eq_run 4 (q := (96, [.ref 17, .ref 59], [.ref 96, .ref 54], hp nS M)) (by with_unfolding_all rfl)).trans ?_
  exact eq_call2 (e := (.invokevirtual 83, 3, 0, 10, 162)) (as := [.ref 54, .ref 96]) (r := []) (n := 2) (m := 2) (by with_unfolding_all rfl) rfl (by decide) (by with_unfolding_all rfl) (by decide) (by with_unfolding_all rfl) ⟨fun _ => am_rec_ok (c := 3) (by with_unfolding_all rfl) (by decide +kernel), fun z => by simp at z⟩
set_option maxRecDepth 20000 in
theorem b_101i1_99 {d nS : Nat} {M : am_M} {Q : Option Value → am_H → Prop} : am_Wp d 101 99 [.ref 17, .ref 59] [] (hp nS M) Q = Q none (hp nS M) := by
  exact eq_retV2 (e := (.return_, 1, 0, 0, 0)) (by with_unfolding_all rfl) rfl (by with_unfolding_all rfl)
-- LarkExchange$World setsLark(III)Z (103, (18, None, None, None))
set_option maxRecDepth 20000 in
theorem b_103_0 {d nS : Nat} {x1 x2 x3 : Int32} {M : am_M} {Q : Option Value → am_H → Prop} : am_Wp (d + 1) 103 0 [.ref 18, .int x1, .int x2, .int x3] [] (hp nS M) Q = am_Wp d 104 0 [.ref 18, .int x2] [] (hp nS M) (fun v h1 => am_Wp (d + 1) 103 5 [.ref 18, .int x1, .int x2, .int x3] (am_ans v []) h1 Q) := by
  refine (eq_run 2 (q := (2, [.ref 18, .int x1, .int x2, .int x3], [.int x2, .ref 18], hp nS M)) (by with_unfolding_all rfl)).trans ?_
  exact eq_call2 (e := (.invokevirtual 71, 3, 0, 104, 187)) (as := [.ref 18, .int x2]) (r := []) (n := 2) (m := 2) (by with_unfolding_all rfl) rfl (by decide) (by with_unfolding_all rfl) (by decide) (by with_unfolding_all rfl) ⟨fun _ => am_rec_ok (c := 12) (by with_unfolding_all rfl) (by decide +kernel), fun z => by simp at z⟩
set_option maxRecDepth 20000 in
theorem b_103_5 {d nS : Nat} {x1 x2 x3 s0 : Int32} {M : am_M} {Q : Option Value → am_H → Prop} : am_Wp d 103 5 [.ref 18, .int x1, .int x2, .int x3] [.int s0] (hp nS M) Q = if ¬ s0 = 0 then am_Wp d 103 10 [.ref 18, .int x1, .int x2, .int x3] [] (hp nS M) Q else am_Wp d 103 8 [.ref 18, .int x1, .int x2, .int x3] [] (hp nS M) Q := by
  exact eq_if_ne (by with_unfolding_all rfl)
set_option maxRecDepth 20000 in
theorem b_103_8 {d nS : Nat} {x1 x2 x3 : Int32} {M : am_M} {Q : Option Value → am_H → Prop} : am_Wp d 103 8 [.ref 18, .int x1, .int x2, .int x3] [] (hp nS M) Q = Q (some (.int 0)) (hp nS M) := by
  refine (eq_run 1 (q := (9, [.ref 18, .int x1, .int x2, .int x3], [.int 0], hp nS M)) (by with_unfolding_all rfl)).trans ?_
  exact eq_retI2 (e := (.ireturn, 1, 0, 0, 0)) (t := .boolean) (by with_unfolding_all rfl) rfl (by with_unfolding_all rfl) rfl
set_option maxRecDepth 20000 in
theorem b_103_10 {d nS : Nat} {x1 x2 x3 : Int32} {M : am_M} {Q : Option Value → am_H → Prop} : am_Wp d 103 10 [.ref 18, .int x1, .int x2, .int x3] [] (hp nS M) Q = if ¬ x1 = 0 then am_Wp d 103 33 [.ref 18, .int x1, .int x2, .int x3] [] (hp nS M) Q else am_Wp d 103 14 [.ref 18, .int x1, .int x2, .int x3] [] (hp nS M) Q := by
  refine (eq_run 1 (q := (11, [.ref 18, .int x1, .int x2, .int x3], [.int x1], hp nS M)) (by with_unfolding_all rfl)).trans ?_
  exact eq_if_ne (by with_unfolding_all rfl)
set_option maxRecDepth 20000 in
theorem b_103_14 {d nS : Nat} {x1 x2 x3 : Int32} {M : am_M} {Q : Option Value → am_H → Prop} : am_Wp d 103 14 [.ref 18, .int x1, .int x2, .int x3] [] (hp nS M) Q = if x3 < 0 then am_Wp d 103 33 [.ref 18, .int x1, .int x2, .int x3] [] (hp nS M) Q else am_Wp d 103 18 [.ref 18, .int x1, .int x2, .int x3] [] (hp nS M) Q := by
  refine (eq_run 1 (q := (15, [.ref 18, .int x1, .int x2, .int x3], [.int x3], hp nS M)) (by with_unfolding_all rfl)).trans ?_
  exact eq_if_lt (by with_unfolding_all rfl)
set_option maxRecDepth 20000 in
theorem b_103_18 {d nS : Nat} {x1 x2 x3 : Int32} {M : am_M} {Q : Option Value → am_H → Prop} : am_Wp d 103 18 [.ref 18, .int x1, .int x2, .int x3] [] (hp nS M) Q = if 9 < x3 then am_Wp d 103 33 [.ref 18, .int x1, .int x2, .int x3] [] (hp nS M) Q else am_Wp d 103 24 [.ref 18, .int x1, .int x2, .int x3] [] (hp nS M) Q := by
  refine (eq_run 2 (q := (21, [.ref 18, .int x1, .int x2, .int x3], [.int 9, .int x3], hp nS M)) (by with_unfolding_all rfl)).trans ?_
  exact eq_cmp_gt (by with_unfolding_all rfl)
set_option maxRecDepth 20000 in
theorem b_103_24 {d nS : Nat} {x1 x2 x3 : Int32} {M : am_M} {Q : Option Value → am_H → Prop} (h1 : vp_in x2 6) : am_Wp d 103 24 [.ref 18, .int x1, .int x2, .int x3] [] (hp nS M) Q = Q (some (.int 1)) (hp nS (am_up M 19 x2.toNatClampNeg x3)) := by
  refine (eq_run 4 (q := (30, [.ref 18, .int x1, .int x2, .int x3], [.int x3, .int x2, .ref 19], hp nS M)) (by with_unfolding_all rfl)).trans ?_
  refine (eq_ast (e := (.iastore, 1, 0, 0, 0)) (by with_unfolding_all rfl) rfl (n := 6) (by with_unfolding_all rfl) (by decide) h1).trans ?_
  refine (eq_run 1 (q := (32, [.ref 18, .int x1, .int x2, .int x3], [.int 1], hp nS (am_up M 19 x2.toNatClampNeg x3))) (by with_unfolding_all rfl)).trans ?_
  exact eq_retI2 (e := (.ireturn, 1, 0, 0, 0)) (t := .boolean) (by with_unfolding_all rfl) rfl (by with_unfolding_all rfl) rfl
set_option maxRecDepth 20000 in
theorem b_103_33 {d nS : Nat} {x1 x2 x3 : Int32} {M : am_M} {Q : Option Value → am_H → Prop} : am_Wp d 103 33 [.ref 18, .int x1, .int x2, .int x3] [] (hp nS M) Q = if ¬ x1 = 1 then am_Wp d 103 58 [.ref 18, .int x1, .int x2, .int x3] [] (hp nS M) Q else am_Wp d 103 38 [.ref 18, .int x1, .int x2, .int x3] [] (hp nS M) Q := by
  refine (eq_run 2 (q := (35, [.ref 18, .int x1, .int x2, .int x3], [.int 1, .int x1], hp nS M)) (by with_unfolding_all rfl)).trans ?_
  exact eq_cmp_ne (by with_unfolding_all rfl)
set_option maxRecDepth 20000 in
theorem b_103_38 {d nS : Nat} {x1 x2 x3 : Int32} {M : am_M} {Q : Option Value → am_H → Prop} : am_Wp d 103 38 [.ref 18, .int x1, .int x2, .int x3] [] (hp nS M) Q = if x3 < 0 then am_Wp d 103 58 [.ref 18, .int x1, .int x2, .int x3] [] (hp nS M) Q else am_Wp d 103 42 [.ref 18, .int x1, .int x2, .int x3] [] (hp nS M) Q := by
  refine (eq_run 1 (q := (39, [.ref 18, .int x1, .int x2, .int x3], [.int x3], hp nS M)) (by with_unfolding_all rfl)).trans ?_
  exact eq_if_lt (by with_unfolding_all rfl)
set_option maxRecDepth 20000 in
theorem b_103_42 {d nS : Nat} {x1 x2 x3 : Int32} {M : am_M} {Q : Option Value → am_H → Prop} : am_Wp d 103 42 [.ref 18, .int x1, .int x2, .int x3] [] (hp nS M) Q = if 999 < x3 then am_Wp d 103 58 [.ref 18, .int x1, .int x2, .int x3] [] (hp nS M) Q else am_Wp d 103 49 [.ref 18, .int x1, .int x2, .int x3] [] (hp nS M) Q := by
  refine (eq_run 2 (q := (46, [.ref 18, .int x1, .int x2, .int x3], [.int 999, .int x3], hp nS M)) (by with_unfolding_all rfl)).trans ?_
  exact eq_cmp_gt (by with_unfolding_all rfl)
set_option maxRecDepth 20000 in
theorem b_103_49 {d nS : Nat} {x1 x2 x3 : Int32} {M : am_M} {Q : Option Value → am_H → Prop} (h1 : vp_in x2 6) : am_Wp d 103 49 [.ref 18, .int x1, .int x2, .int x3] [] (hp nS M) Q = Q (some (.int 1)) (hp nS (am_up M 20 x2.toNatClampNeg x3)) := by
  refine (eq_run 4 (q := (55, [.ref 18, .int x1, .int x2, .int x3], [.int x3, .int x2, .ref 20], hp nS M)) (by with_unfolding_all rfl)).trans ?_
  refine (eq_ast (e := (.iastore, 1, 0, 0, 0)) (by with_unfolding_all rfl) rfl (n := 6) (by with_unfolding_all rfl) (by decide) h1).trans ?_
  refine (eq_run 1 (q := (57, [.ref 18, .int x1, .int x2, .int x3], [.int 1], hp nS (am_up M 20 x2.toNatClampNeg x3))) (by with_unfolding_all rfl)).trans ?_
  exact eq_retI2 (e := (.ireturn, 1, 0, 0, 0)) (t := .boolean) (by with_unfolding_all rfl) rfl (by with_unfolding_all rfl) rfl
set_option maxRecDepth 20000 in
theorem b_103_58 {d nS : Nat} {x1 x2 x3 : Int32} {M : am_M} {Q : Option Value → am_H → Prop} : am_Wp d 103 58 [.ref 18, .int x1, .int x2, .int x3] [] (hp nS M) Q = if ¬ x1 = 2 then am_Wp d 103 82 [.ref 18, .int x1, .int x2, .int x3] [] (hp nS M) Q else am_Wp d 103 63 [.ref 18, .int x1, .int x2, .int x3] [] (hp nS M) Q := by
  refine (eq_run 2 (q := (60, [.ref 18, .int x1, .int x2, .int x3], [.int 2, .int x1], hp nS M)) (by with_unfolding_all rfl)).trans ?_
  exact eq_cmp_ne (by with_unfolding_all rfl)
set_option maxRecDepth 20000 in
theorem b_103_63 {d nS : Nat} {x1 x2 x3 : Int32} {M : am_M} {Q : Option Value → am_H → Prop} : am_Wp d 103 63 [.ref 18, .int x1, .int x2, .int x3] [] (hp nS M) Q = if x3 < 0 then am_Wp d 103 82 [.ref 18, .int x1, .int x2, .int x3] [] (hp nS M) Q else am_Wp d 103 67 [.ref 18, .int x1, .int x2, .int x3] [] (hp nS M) Q := by
  refine (eq_run 1 (q := (64, [.ref 18, .int x1, .int x2, .int x3], [.int x3], hp nS M)) (by with_unfolding_all rfl)).trans ?_
  exact eq_if_lt (by with_unfolding_all rfl)
set_option maxRecDepth 20000 in
theorem b_103_67 {d nS : Nat} {x1 x2 x3 : Int32} {M : am_M} {Q : Option Value → am_H → Prop} : am_Wp d 103 67 [.ref 18, .int x1, .int x2, .int x3] [] (hp nS M) Q = if 9 < x3 then am_Wp d 103 82 [.ref 18, .int x1, .int x2, .int x3] [] (hp nS M) Q else am_Wp d 103 73 [.ref 18, .int x1, .int x2, .int x3] [] (hp nS M) Q := by
  refine (eq_run 2 (q := (70, [.ref 18, .int x1, .int x2, .int x3], [.int 9, .int x3], hp nS M)) (by with_unfolding_all rfl)).trans ?_
  exact eq_cmp_gt (by with_unfolding_all rfl)
set_option maxRecDepth 20000 in
theorem b_103_73 {d nS : Nat} {x1 x2 x3 : Int32} {M : am_M} {Q : Option Value → am_H → Prop} (h1 : vp_in x2 6) : am_Wp d 103 73 [.ref 18, .int x1, .int x2, .int x3] [] (hp nS M) Q = Q (some (.int 1)) (hp nS (am_up M 23 x2.toNatClampNeg x3)) := by
  refine (eq_run 4 (q := (79, [.ref 18, .int x1, .int x2, .int x3], [.int x3, .int x2, .ref 23], hp nS M)) (by with_unfolding_all rfl)).trans ?_
  refine (eq_ast (e := (.iastore, 1, 0, 0, 0)) (by with_unfolding_all rfl) rfl (n := 6) (by with_unfolding_all rfl) (by decide) h1).trans ?_
  refine (eq_run 1 (q := (81, [.ref 18, .int x1, .int x2, .int x3], [.int 1], hp nS (am_up M 23 x2.toNatClampNeg x3))) (by with_unfolding_all rfl)).trans ?_
  exact eq_retI2 (e := (.ireturn, 1, 0, 0, 0)) (t := .boolean) (by with_unfolding_all rfl) rfl (by with_unfolding_all rfl) rfl
set_option maxRecDepth 20000 in
theorem b_103_82 {d nS : Nat} {x1 x2 x3 : Int32} {M : am_M} {Q : Option Value → am_H → Prop} : am_Wp d 103 82 [.ref 18, .int x1, .int x2, .int x3] [] (hp nS M) Q = Q (some (.int 0)) (hp nS M) := by
  refine (eq_run 1 (q := (83, [.ref 18, .int x1, .int x2, .int x3], [.int 0], hp nS M)) (by with_unfolding_all rfl)).trans ?_
  exact eq_retI2 (e := (.ireturn, 1, 0, 0, 0)) (t := .boolean) (by with_unfolding_all rfl) rfl (by with_unfolding_all rfl) rfl
-- LarkExchange$World hasLark(I)Z (104, (18, None))
set_option maxRecDepth 20000 in
theorem b_104_0 {d nS : Nat} {x1 : Int32} {M : am_M} {Q : Option Value → am_H → Prop} : am_Wp d 104 0 [.ref 18, .int x1] [] (hp nS M) Q = if x1 < 0 then am_Wp d 104 16 [.ref 18, .int x1] [] (hp nS M) Q else am_Wp d 104 4 [.ref 18, .int x1] [] (hp nS M) Q := by
  refine (eq_run 1 (q := (1, [.ref 18, .int x1], [.int x1], hp nS M)) (by with_unfolding_all rfl)).trans ?_
  exact eq_if_lt (by with_unfolding_all rfl)
set_option maxRecDepth 20000 in
theorem b_104_4 {d nS : Nat} {x1 : Int32} {M : am_M} {Q : Option Value → am_H → Prop} : am_Wp d 104 4 [.ref 18, .int x1] [] (hp nS M) Q = if (M 18 0) ≤ x1 then am_Wp d 104 16 [.ref 18, .int x1] [] (hp nS M) Q else am_Wp d 104 12 [.ref 18, .int x1] [] (hp nS M) Q := by
  refine (eq_run 3 (q := (9, [.ref 18, .int x1], [.int (M 18 0), .int x1], hp nS M)) (by with_unfolding_all rfl)).trans ?_
  exact eq_cmp_ge (by with_unfolding_all rfl)
set_option maxRecDepth 20000 in
theorem b_104_12 {d nS : Nat} {x1 : Int32} {M : am_M} {Q : Option Value → am_H → Prop} : am_Wp d 104 12 [.ref 18, .int x1] [] (hp nS M) Q = am_Wp d 104 17 [.ref 18, .int x1] [.int 1] (hp nS M) Q := by
  exact eq_run 2 (q := (17, [.ref 18, .int x1], [.int 1], hp nS M)) (by with_unfolding_all rfl)
set_option maxRecDepth 20000 in
theorem b_104_16 {d nS : Nat} {x1 : Int32} {M : am_M} {Q : Option Value → am_H → Prop} : am_Wp d 104 16 [.ref 18, .int x1] [] (hp nS M) Q = am_Wp d 104 17 [.ref 18, .int x1] [.int 0] (hp nS M) Q := by
  exact eq_run 1 (q := (17, [.ref 18, .int x1], [.int 0], hp nS M)) (by with_unfolding_all rfl)
set_option maxRecDepth 20000 in
theorem b_104_17 {d nS : Nat} {x1 s0 : Int32} {M : am_M} {Q : Option Value → am_H → Prop} (h1 : am_rok .boolean s0 = true) : am_Wp d 104 17 [.ref 18, .int x1] [.int s0] (hp nS M) Q = Q (some (.int s0)) (hp nS M) := by
  exact eq_retI2 (e := (.ireturn, 1, 0, 0, 0)) (t := .boolean) (by with_unfolding_all rfl) rfl (by with_unfolding_all rfl) h1
-- LarkExchange$World hasLark(I)Z (104, (101, None))
set_option maxRecDepth 20000 in
theorem b_104i1_0 {d nS : Nat} {x1 : Int32} {M : am_M} {Q : Option Value → am_H → Prop} : am_Wp d 104 0 [.ref 101, .int x1] [] (hp nS M) Q = if x1 < 0 then am_Wp d 104 16 [.ref 101, .int x1] [] (hp nS M) Q else am_Wp d 104 4 [.ref 101, .int x1] [] (hp nS M) Q := by
  refine (eq_run 1 (q := (1, [.ref 101, .int x1], [.int x1], hp nS M)) (by with_unfolding_all rfl)).trans ?_
  exact eq_if_lt (by with_unfolding_all rfl)
set_option maxRecDepth 20000 in
theorem b_104i1_4 {d nS : Nat} {x1 : Int32} {M : am_M} {Q : Option Value → am_H → Prop} : am_Wp d 104 4 [.ref 101, .int x1] [] (hp nS M) Q = if (M 101 0) ≤ x1 then am_Wp d 104 16 [.ref 101, .int x1] [] (hp nS M) Q else am_Wp d 104 12 [.ref 101, .int x1] [] (hp nS M) Q := by
  refine (eq_run 3 (q := (9, [.ref 101, .int x1], [.int (M 101 0), .int x1], hp nS M)) (by with_unfolding_all rfl)).trans ?_
  exact eq_cmp_ge (by with_unfolding_all rfl)
set_option maxRecDepth 20000 in
theorem b_104i1_12 {d nS : Nat} {x1 : Int32} {M : am_M} {Q : Option Value → am_H → Prop} : am_Wp d 104 12 [.ref 101, .int x1] [] (hp nS M) Q = am_Wp d 104 17 [.ref 101, .int x1] [.int 1] (hp nS M) Q := by
  exact eq_run 2 (q := (17, [.ref 101, .int x1], [.int 1], hp nS M)) (by with_unfolding_all rfl)
set_option maxRecDepth 20000 in
theorem b_104i1_16 {d nS : Nat} {x1 : Int32} {M : am_M} {Q : Option Value → am_H → Prop} : am_Wp d 104 16 [.ref 101, .int x1] [] (hp nS M) Q = am_Wp d 104 17 [.ref 101, .int x1] [.int 0] (hp nS M) Q := by
  exact eq_run 1 (q := (17, [.ref 101, .int x1], [.int 0], hp nS M)) (by with_unfolding_all rfl)
set_option maxRecDepth 20000 in
theorem b_104i1_17 {d nS : Nat} {x1 s0 : Int32} {M : am_M} {Q : Option Value → am_H → Prop} (h1 : am_rok .boolean s0 = true) : am_Wp d 104 17 [.ref 101, .int x1] [.int s0] (hp nS M) Q = Q (some (.int s0)) (hp nS M) := by
  exact eq_retI2 (e := (.ireturn, 1, 0, 0, 0)) (t := .boolean) (by with_unfolding_all rfl) rfl (by with_unfolding_all rfl) h1
-- LarkExchange$World setsOther(III)Z (105, (18, None, None, None))
set_option maxRecDepth 20000 in
theorem b_105_0 {d nS : Nat} {x1 x2 x3 : Int32} {M : am_M} {Q : Option Value → am_H → Prop} : am_Wp d 105 0 [.ref 18, .int x1, .int x2, .int x3] [] (hp nS M) Q = if ¬ x1 = 3 then am_Wp d 105 33 [.ref 18, .int x1, .int x2, .int x3] [] (hp nS M) Q else am_Wp d 105 5 [.ref 18, .int x1, .int x2, .int x3] [] (hp nS M) Q := by
  refine (eq_run 2 (q := (2, [.ref 18, .int x1, .int x2, .int x3], [.int 3, .int x1], hp nS M)) (by with_unfolding_all rfl)).trans ?_
  exact eq_cmp_ne (by with_unfolding_all rfl)
set_option maxRecDepth 20000 in
theorem b_105_5 {d nS : Nat} {x1 x2 x3 : Int32} {M : am_M} {Q : Option Value → am_H → Prop} : am_Wp (d + 1) 105 5 [.ref 18, .int x1, .int x2, .int x3] [] (hp nS M) Q = am_Wp d 106 0 [.ref 18, .int x2] [] (hp nS M) (fun v h1 => am_Wp (d + 1) 105 10 [.ref 18, .int x1, .int x2, .int x3] (am_ans v []) h1 Q) := by
  refine (eq_run 2 (q := (7, [.ref 18, .int x1, .int x2, .int x3], [.int x2, .ref 18], hp nS M)) (by with_unfolding_all rfl)).trans ?_
  exact eq_call2 (e := (.invokevirtual 75, 3, 0, 106, 188)) (as := [.ref 18, .int x2]) (r := []) (n := 2) (m := 2) (by with_unfolding_all rfl) rfl (by decide) (by with_unfolding_all rfl) (by decide) (by with_unfolding_all rfl) ⟨fun _ => am_rec_ok (c := 12) (by with_unfolding_all rfl) (by decide +kernel), fun z => by simp at z⟩
set_option maxRecDepth 20000 in
theorem b_105_10 {d nS : Nat} {x1 x2 x3 s0 : Int32} {M : am_M} {Q : Option Value → am_H → Prop} : am_Wp d 105 10 [.ref 18, .int x1, .int x2, .int x3] [.int s0] (hp nS M) Q = if s0 = 0 then am_Wp d 105 33 [.ref 18, .int x1, .int x2, .int x3] [] (hp nS M) Q else am_Wp d 105 13 [.ref 18, .int x1, .int x2, .int x3] [] (hp nS M) Q := by
  exact eq_if_eq (by with_unfolding_all rfl)
set_option maxRecDepth 20000 in
theorem b_105_13 {d nS : Nat} {x1 x2 x3 : Int32} {M : am_M} {Q : Option Value → am_H → Prop} : am_Wp d 105 13 [.ref 18, .int x1, .int x2, .int x3] [] (hp nS M) Q = if x3 < 1 then am_Wp d 105 33 [.ref 18, .int x1, .int x2, .int x3] [] (hp nS M) Q else am_Wp d 105 18 [.ref 18, .int x1, .int x2, .int x3] [] (hp nS M) Q := by
  refine (eq_run 2 (q := (15, [.ref 18, .int x1, .int x2, .int x3], [.int 1, .int x3], hp nS M)) (by with_unfolding_all rfl)).trans ?_
  exact eq_cmp_lt (by with_unfolding_all rfl)
set_option maxRecDepth 20000 in
theorem b_105_18 {d nS : Nat} {x1 x2 x3 : Int32} {M : am_M} {Q : Option Value → am_H → Prop} : am_Wp d 105 18 [.ref 18, .int x1, .int x2, .int x3] [] (hp nS M) Q = if 99 < x3 then am_Wp d 105 33 [.ref 18, .int x1, .int x2, .int x3] [] (hp nS M) Q else am_Wp d 105 24 [.ref 18, .int x1, .int x2, .int x3] [] (hp nS M) Q := by
  refine (eq_run 2 (q := (21, [.ref 18, .int x1, .int x2, .int x3], [.int 99, .int x3], hp nS M)) (by with_unfolding_all rfl)).trans ?_
  exact eq_cmp_gt (by with_unfolding_all rfl)
set_option maxRecDepth 20000 in
theorem b_105_24 {d nS : Nat} {x1 x2 x3 : Int32} {M : am_M} {Q : Option Value → am_H → Prop} (h1 : vp_in x2 8) : am_Wp d 105 24 [.ref 18, .int x1, .int x2, .int x3] [] (hp nS M) Q = Q (some (.int 1)) (hp nS (am_up M 24 x2.toNatClampNeg x3)) := by
  refine (eq_run 4 (q := (30, [.ref 18, .int x1, .int x2, .int x3], [.int x3, .int x2, .ref 24], hp nS M)) (by with_unfolding_all rfl)).trans ?_
  refine (eq_ast (e := (.iastore, 1, 0, 0, 0)) (by with_unfolding_all rfl) rfl (n := 8) (by with_unfolding_all rfl) (by decide) h1).trans ?_
  refine (eq_run 1 (q := (32, [.ref 18, .int x1, .int x2, .int x3], [.int 1], hp nS (am_up M 24 x2.toNatClampNeg x3))) (by with_unfolding_all rfl)).trans ?_
  exact eq_retI2 (e := (.ireturn, 1, 0, 0, 0)) (t := .boolean) (by with_unfolding_all rfl) rfl (by with_unfolding_all rfl) rfl
set_option maxRecDepth 20000 in
theorem b_105_33 {d nS : Nat} {x1 x2 x3 : Int32} {M : am_M} {Q : Option Value → am_H → Prop} : am_Wp d 105 33 [.ref 18, .int x1, .int x2, .int x3] [] (hp nS M) Q = if ¬ x1 = 4 then am_Wp d 105 67 [.ref 18, .int x1, .int x2, .int x3] [] (hp nS M) Q else am_Wp d 105 38 [.ref 18, .int x1, .int x2, .int x3] [] (hp nS M) Q := by
  refine (eq_run 2 (q := (35, [.ref 18, .int x1, .int x2, .int x3], [.int 4, .int x1], hp nS M)) (by with_unfolding_all rfl)).trans ?_
  exact eq_cmp_ne (by with_unfolding_all rfl)
set_option maxRecDepth 20000 in
theorem b_105_38 {d nS : Nat} {x1 x2 x3 : Int32} {M : am_M} {Q : Option Value → am_H → Prop} : am_Wp (d + 1) 105 38 [.ref 18, .int x1, .int x2, .int x3] [] (hp nS M) Q = am_Wp d 106 0 [.ref 18, .int x2] [] (hp nS M) (fun v h1 => am_Wp (d + 1) 105 43 [.ref 18, .int x1, .int x2, .int x3] (am_ans v []) h1 Q) := by
  refine (eq_run 2 (q := (40, [.ref 18, .int x1, .int x2, .int x3], [.int x2, .ref 18], hp nS M)) (by with_unfolding_all rfl)).trans ?_
  exact eq_call2 (e := (.invokevirtual 75, 3, 0, 106, 188)) (as := [.ref 18, .int x2]) (r := []) (n := 2) (m := 2) (by with_unfolding_all rfl) rfl (by decide) (by with_unfolding_all rfl) (by decide) (by with_unfolding_all rfl) ⟨fun _ => am_rec_ok (c := 12) (by with_unfolding_all rfl) (by decide +kernel), fun z => by simp at z⟩
set_option maxRecDepth 20000 in
theorem b_105_43 {d nS : Nat} {x1 x2 x3 s0 : Int32} {M : am_M} {Q : Option Value → am_H → Prop} : am_Wp d 105 43 [.ref 18, .int x1, .int x2, .int x3] [.int s0] (hp nS M) Q = if s0 = 0 then am_Wp d 105 67 [.ref 18, .int x1, .int x2, .int x3] [] (hp nS M) Q else am_Wp d 105 46 [.ref 18, .int x1, .int x2, .int x3] [] (hp nS M) Q := by
  exact eq_if_eq (by with_unfolding_all rfl)
set_option maxRecDepth 20000 in
theorem b_105_46 {d nS : Nat} {x1 x2 x3 : Int32} {M : am_M} {Q : Option Value → am_H → Prop} : am_Wp d 105 46 [.ref 18, .int x1, .int x2, .int x3] [] (hp nS M) Q = if x3 < 1 then am_Wp d 105 67 [.ref 18, .int x1, .int x2, .int x3] [] (hp nS M) Q else am_Wp d 105 51 [.ref 18, .int x1, .int x2, .int x3] [] (hp nS M) Q := by
  refine (eq_run 2 (q := (48, [.ref 18, .int x1, .int x2, .int x3], [.int 1, .int x3], hp nS M)) (by with_unfolding_all rfl)).trans ?_
  exact eq_cmp_lt (by with_unfolding_all rfl)
set_option maxRecDepth 20000 in
theorem b_105_51 {d nS : Nat} {x1 x2 x3 : Int32} {M : am_M} {Q : Option Value → am_H → Prop} : am_Wp d 105 51 [.ref 18, .int x1, .int x2, .int x3] [] (hp nS M) Q = if 999 < x3 then am_Wp d 105 67 [.ref 18, .int x1, .int x2, .int x3] [] (hp nS M) Q else am_Wp d 105 58 [.ref 18, .int x1, .int x2, .int x3] [] (hp nS M) Q := by
  refine (eq_run 2 (q := (55, [.ref 18, .int x1, .int x2, .int x3], [.int 999, .int x3], hp nS M)) (by with_unfolding_all rfl)).trans ?_
  exact eq_cmp_gt (by with_unfolding_all rfl)
set_option maxRecDepth 20000 in
theorem b_105_58 {d nS : Nat} {x1 x2 x3 : Int32} {M : am_M} {Q : Option Value → am_H → Prop} (h1 : vp_in x2 8) : am_Wp d 105 58 [.ref 18, .int x1, .int x2, .int x3] [] (hp nS M) Q = Q (some (.int 1)) (hp nS (am_up M 26 x2.toNatClampNeg x3)) := by
  refine (eq_run 4 (q := (64, [.ref 18, .int x1, .int x2, .int x3], [.int x3, .int x2, .ref 26], hp nS M)) (by with_unfolding_all rfl)).trans ?_
  refine (eq_ast (e := (.iastore, 1, 0, 0, 0)) (by with_unfolding_all rfl) rfl (n := 8) (by with_unfolding_all rfl) (by decide) h1).trans ?_
  refine (eq_run 1 (q := (66, [.ref 18, .int x1, .int x2, .int x3], [.int 1], hp nS (am_up M 26 x2.toNatClampNeg x3))) (by with_unfolding_all rfl)).trans ?_
  exact eq_retI2 (e := (.ireturn, 1, 0, 0, 0)) (t := .boolean) (by with_unfolding_all rfl) rfl (by with_unfolding_all rfl) rfl
set_option maxRecDepth 20000 in
theorem b_105_67 {d nS : Nat} {x1 x2 x3 : Int32} {M : am_M} {Q : Option Value → am_H → Prop} : am_Wp d 105 67 [.ref 18, .int x1, .int x2, .int x3] [] (hp nS M) Q = if ¬ x1 = 5 then am_Wp d 105 100 [.ref 18, .int x1, .int x2, .int x3] [] (hp nS M) Q else am_Wp d 105 72 [.ref 18, .int x1, .int x2, .int x3] [] (hp nS M) Q := by
  refine (eq_run 2 (q := (69, [.ref 18, .int x1, .int x2, .int x3], [.int 5, .int x1], hp nS M)) (by with_unfolding_all rfl)).trans ?_
  exact eq_cmp_ne (by with_unfolding_all rfl)
set_option maxRecDepth 20000 in
theorem b_105_72 {d nS : Nat} {x1 x2 x3 : Int32} {M : am_M} {Q : Option Value → am_H → Prop} : am_Wp (d + 1) 105 72 [.ref 18, .int x1, .int x2, .int x3] [] (hp nS M) Q = am_Wp d 107 0 [.ref 18, .int x2] [] (hp nS M) (fun v h1 => am_Wp (d + 1) 105 77 [.ref 18, .int x1, .int x2, .int x3] (am_ans v []) h1 Q) := by
  refine (eq_run 2 (q := (74, [.ref 18, .int x1, .int x2, .int x3], [.int x2, .ref 18], hp nS M)) (by with_unfolding_all rfl)).trans ?_
  exact eq_call2 (e := (.invokevirtual 78, 3, 0, 107, 189)) (as := [.ref 18, .int x2]) (r := []) (n := 2) (m := 2) (by with_unfolding_all rfl) rfl (by decide) (by with_unfolding_all rfl) (by decide) (by with_unfolding_all rfl) ⟨fun _ => am_rec_ok (c := 12) (by with_unfolding_all rfl) (by decide +kernel), fun z => by simp at z⟩
set_option maxRecDepth 20000 in
theorem b_105_77 {d nS : Nat} {x1 x2 x3 s0 : Int32} {M : am_M} {Q : Option Value → am_H → Prop} : am_Wp d 105 77 [.ref 18, .int x1, .int x2, .int x3] [.int s0] (hp nS M) Q = if s0 = 0 then am_Wp d 105 100 [.ref 18, .int x1, .int x2, .int x3] [] (hp nS M) Q else am_Wp d 105 80 [.ref 18, .int x1, .int x2, .int x3] [] (hp nS M) Q := by
  exact eq_if_eq (by with_unfolding_all rfl)
set_option maxRecDepth 20000 in
theorem b_105_80 {d nS : Nat} {x1 x2 x3 : Int32} {M : am_M} {Q : Option Value → am_H → Prop} : am_Wp d 105 80 [.ref 18, .int x1, .int x2, .int x3] [] (hp nS M) Q = if x3 < 0 then am_Wp d 105 100 [.ref 18, .int x1, .int x2, .int x3] [] (hp nS M) Q else am_Wp d 105 84 [.ref 18, .int x1, .int x2, .int x3] [] (hp nS M) Q := by
  refine (eq_run 1 (q := (81, [.ref 18, .int x1, .int x2, .int x3], [.int x3], hp nS M)) (by with_unfolding_all rfl)).trans ?_
  exact eq_if_lt (by with_unfolding_all rfl)
set_option maxRecDepth 20000 in
theorem b_105_84 {d nS : Nat} {x1 x2 x3 : Int32} {M : am_M} {Q : Option Value → am_H → Prop} : am_Wp d 105 84 [.ref 18, .int x1, .int x2, .int x3] [] (hp nS M) Q = if 9999 < x3 then am_Wp d 105 100 [.ref 18, .int x1, .int x2, .int x3] [] (hp nS M) Q else am_Wp d 105 91 [.ref 18, .int x1, .int x2, .int x3] [] (hp nS M) Q := by
  refine (eq_run 2 (q := (88, [.ref 18, .int x1, .int x2, .int x3], [.int 9999, .int x3], hp nS M)) (by with_unfolding_all rfl)).trans ?_
  exact eq_cmp_gt (by with_unfolding_all rfl)
set_option maxRecDepth 20000 in
theorem b_105_91 {d nS : Nat} {x1 x2 x3 : Int32} {M : am_M} {Q : Option Value → am_H → Prop} (h1 : vp_in x2 10) : am_Wp d 105 91 [.ref 18, .int x1, .int x2, .int x3] [] (hp nS M) Q = Q (some (.int 1)) (hp nS (am_up M 27 x2.toNatClampNeg x3)) := by
  refine (eq_run 4 (q := (97, [.ref 18, .int x1, .int x2, .int x3], [.int x3, .int x2, .ref 27], hp nS M)) (by with_unfolding_all rfl)).trans ?_
  refine (eq_ast (e := (.iastore, 1, 0, 0, 0)) (by with_unfolding_all rfl) rfl (n := 10) (by with_unfolding_all rfl) (by decide) h1).trans ?_
  refine (eq_run 1 (q := (99, [.ref 18, .int x1, .int x2, .int x3], [.int 1], hp nS (am_up M 27 x2.toNatClampNeg x3))) (by with_unfolding_all rfl)).trans ?_
  exact eq_retI2 (e := (.ireturn, 1, 0, 0, 0)) (t := .boolean) (by with_unfolding_all rfl) rfl (by with_unfolding_all rfl) rfl
set_option maxRecDepth 20000 in
theorem b_105_100 {d nS : Nat} {x1 x2 x3 : Int32} {M : am_M} {Q : Option Value → am_H → Prop} : am_Wp d 105 100 [.ref 18, .int x1, .int x2, .int x3] [] (hp nS M) Q = if ¬ x1 = 6 then am_Wp d 105 123 [.ref 18, .int x1, .int x2, .int x3] [] (hp nS M) Q else am_Wp d 105 106 [.ref 18, .int x1, .int x2, .int x3] [] (hp nS M) Q := by
  refine (eq_run 2 (q := (103, [.ref 18, .int x1, .int x2, .int x3], [.int 6, .int x1], hp nS M)) (by with_unfolding_all rfl)).trans ?_
  exact eq_cmp_ne (by with_unfolding_all rfl)
set_option maxRecDepth 20000 in
theorem b_105_106 {d nS : Nat} {x1 x2 x3 : Int32} {M : am_M} {Q : Option Value → am_H → Prop} : am_Wp d 105 106 [.ref 18, .int x1, .int x2, .int x3] [] (hp nS M) Q = if x3 < 0 then am_Wp d 105 123 [.ref 18, .int x1, .int x2, .int x3] [] (hp nS M) Q else am_Wp d 105 110 [.ref 18, .int x1, .int x2, .int x3] [] (hp nS M) Q := by
  refine (eq_run 1 (q := (107, [.ref 18, .int x1, .int x2, .int x3], [.int x3], hp nS M)) (by with_unfolding_all rfl)).trans ?_
  exact eq_if_lt (by with_unfolding_all rfl)
set_option maxRecDepth 20000 in
theorem b_105_110 {d nS : Nat} {x1 x2 x3 : Int32} {M : am_M} {Q : Option Value → am_H → Prop} : am_Wp d 105 110 [.ref 18, .int x1, .int x2, .int x3] [] (hp nS M) Q = if 9 < x3 then am_Wp d 105 123 [.ref 18, .int x1, .int x2, .int x3] [] (hp nS M) Q else am_Wp d 105 116 [.ref 18, .int x1, .int x2, .int x3] [] (hp nS M) Q := by
  refine (eq_run 2 (q := (113, [.ref 18, .int x1, .int x2, .int x3], [.int 9, .int x3], hp nS M)) (by with_unfolding_all rfl)).trans ?_
  exact eq_cmp_gt (by with_unfolding_all rfl)
set_option maxRecDepth 20000 in
theorem b_105_116 {d nS : Nat} {x1 x2 x3 : Int32} {M : am_M} {Q : Option Value → am_H → Prop} : am_Wp d 105 116 [.ref 18, .int x1, .int x2, .int x3] [] (hp nS M) Q = Q (some (.int 1)) (hp nS (am_up M 18 3 x3)) := by
  refine (eq_run 4 (q := (122, [.ref 18, .int x1, .int x2, .int x3], [.int 1], hp nS (am_up M 18 3 x3))) (by with_unfolding_all rfl)).trans ?_
  exact eq_retI2 (e := (.ireturn, 1, 0, 0, 0)) (t := .boolean) (by with_unfolding_all rfl) rfl (by with_unfolding_all rfl) rfl
set_option maxRecDepth 20000 in
theorem b_105_123 {d nS : Nat} {x1 x2 x3 : Int32} {M : am_M} {Q : Option Value → am_H → Prop} : am_Wp d 105 123 [.ref 18, .int x1, .int x2, .int x3] [] (hp nS M) Q = Q (some (.int 0)) (hp nS M) := by
  refine (eq_run 1 (q := (124, [.ref 18, .int x1, .int x2, .int x3], [.int 0], hp nS M)) (by with_unfolding_all rfl)).trans ?_
  exact eq_retI2 (e := (.ireturn, 1, 0, 0, 0)) (t := .boolean) (by with_unfolding_all rfl) rfl (by with_unfolding_all rfl) rfl
