/-! blocks that were wanting -/
set_option maxRecDepth 20000 in
theorem b_290_35 {d nS : Nat} {x1 x2 : Int32} {M : am_M} {Q : Option Value → am_H → Prop} : am_Wp d 290 35 [.ref 205, .int x1, .int x2] [] (hp nS M) Q = if 136 ≤ x2 then am_Wp d 290 64 [.ref 205, .int x1, .int x2] [] (hp nS M) Q else am_Wp d 290 42 [.ref 205, .int x1, .int x2] [] (hp nS M) Q := by
  refine (eq_run 2 (q := (39, [.ref 205, .int x1, .int x2], [.int 136, .int x2], hp nS M)) (by with_unfolding_all rfl)).trans ?_
  exact eq_cmp_ge (by with_unfolding_all rfl)
set_option maxRecDepth 20000 in
theorem b_290_42 {d nS : Nat} {x1 x2 : Int32} {M : am_M} {Q : Option Value → am_H → Prop} (h1 : vp_in x2 136) : am_Wp (d + 1) 290 42 [.ref 205, .int x1, .int x2] [] (hp nS M) Q = am_Wp d 291 0 [.ref 205, .int (M 206 x2.toNatClampNeg)] [] (hp nS M) (fun v h1 => am_Wp (d + 1) 290 57 [.ref 205, .int x1, .int x2] (am_ans v [.int x2, .ref 206]) h1 Q) := by
  refine (eq_run 7 (q := (53, [.ref 205, .int x1, .int x2], [.int x2, .ref 206, .ref 205, .int x2, .ref 206], hp nS M)) (by with_unfolding_all rfl)).trans ?_
  refine (eq_ald (e := (.iaload, 1, 0, 0, 0)) (by with_unfolding_all rfl) rfl (n := 136) (by with_unfolding_all rfl) h1).trans ?_
  exact eq_call2 (e := (.invokevirtual 473, 3, 0, 291, 360)) (as := [.ref 205, .int (M 206 x2.toNatClampNeg)]) (r := [.int x2, .ref 206]) (n := 2) (m := 2) (by with_unfolding_all rfl) rfl (by decide) (by with_unfolding_all rfl) (by decide) (by with_unfolding_all rfl) ⟨fun _ => am_rec_ok (c := 14) (by with_unfolding_all rfl) (by decide +kernel), fun z => by simp at z⟩
set_option maxRecDepth 20000 in
theorem b_290_57 {d nS : Nat} {x1 x2 s1 s2 : Int32} {M : am_M} {Q : Option Value → am_H → Prop} (h1 : vp_in s1 136) : am_Wp d 290 57 [.ref 205, .int x1, .int x2] [.int s2, .int s1, .ref 206] (hp nS M) Q = am_Wp d 290 35 [.ref 205, .int x1, .int (x2 + 1)] [] (hp nS (am_up M 206 s1.toNatClampNeg s2)) Q := by
  refine (eq_ast (e := (.iastore, 1, 0, 0, 0)) (by with_unfolding_all rfl) rfl (n := 136) (by with_unfolding_all rfl) (by decide) h1).trans ?_
  exact eq_run 2 (q := (35, [.ref 205, .int x1, .int (x2 + 1)], [], hp nS (am_up M 206 s1.toNatClampNeg s2))) (by with_unfolding_all rfl)
set_option maxRecDepth 20000 in
theorem b_290_64 {d nS : Nat} {x1 x2 : Int32} {M : am_M} {Q : Option Value → am_H → Prop} : am_Wp (d + 1) 290 64 [.ref 205, .int x1, .int x2] [] (hp nS M) Q = am_Wp d 292 0 [.ref 205, .retAddr 0] [] (hp nS M) (fun v h1 => am_Wp (d + 1) 290 68 [.ref 205, .int x1, .int x2] (am_ans v []) h1 Q) := by
  refine (eq_run 1 (q := (65, [.ref 205, .int x1, .int x2], [.ref 205], hp nS M)) (by with_unfolding_all rfl)).trans ?_
  exact eq_call2 (e := (.invokevirtual 479, 3, 0, 292, 361)) (as := [.ref 205]) (r := []) (n := 1) (m := 2) (by with_unfolding_all rfl) rfl (by decide) (by with_unfolding_all rfl) (by decide) (by with_unfolding_all rfl) ⟨fun _ => am_rec_ok (c := 14) (by with_unfolding_all rfl) (by decide +kernel), fun z => by simp at z⟩
set_option maxRecDepth 20000 in
theorem b_290_68 {d nS : Nat} {x1 x2 : Int32} {M : am_M} {Q : Option Value → am_H → Prop} : am_Wp d 290 68 [.ref 205, .int x1, .int x2] [] (hp nS M) Q = am_Wp d 290 70 [.ref 205, .int x1, .int 0] [] (hp nS M) Q := by
  exact eq_run 2 (q := (70, [.ref 205, .int x1, .int 0], [], hp nS M)) (by with_unfolding_all rfl)
set_option maxRecDepth 20000 in
theorem b_290_70 {d nS : Nat} {x1 x2 : Int32} {M : am_M} {Q : Option Value → am_H → Prop} : am_Wp d 290 70 [.ref 205, .int x1, .int x2] [] (hp nS M) Q = if 600 ≤ x2 then am_Wp d 290 99 [.ref 205, .int x1, .int x2] [] (hp nS M) Q else am_Wp d 290 77 [.ref 205, .int x1, .int x2] [] (hp nS M) Q := by
  refine (eq_run 2 (q := (74, [.ref 205, .int x1, .int x2], [.int 600, .int x2], hp nS M)) (by with_unfolding_all rfl)).trans ?_
  exact eq_cmp_ge (by with_unfolding_all rfl)
set_option maxRecDepth 20000 in
theorem b_290_77 {d nS : Nat} {x1 x2 : Int32} {M : am_M} {Q : Option Value → am_H → Prop} (h1 : vp_in x2 600) : am_Wp (d + 1) 290 77 [.ref 205, .int x1, .int x2] [] (hp nS M) Q = am_Wp d 291 0 [.ref 205, .int (M 211 x2.toNatClampNeg)] [] (hp nS M) (fun v h1 => am_Wp (d + 1) 290 92 [.ref 205, .int x1, .int x2] (am_ans v [.int x2, .ref 211]) h1 Q) := by
  refine (eq_run 7 (q := (88, [.ref 205, .int x1, .int x2], [.int x2, .ref 211, .ref 205, .int x2, .ref 211], hp nS M)) (by with_unfolding_all rfl)).trans ?_
  refine (eq_ald (e := (.iaload, 1, 0, 0, 0)) (by with_unfolding_all rfl) rfl (n := 600) (by with_unfolding_all rfl) h1).trans ?_
  exact eq_call2 (e := (.invokevirtual 473, 3, 0, 291, 360)) (as := [.ref 205, .int (M 211 x2.toNatClampNeg)]) (r := [.int x2, .ref 211]) (n := 2) (m := 2) (by with_unfolding_all rfl) rfl (by decide) (by with_unfolding_all rfl) (by decide) (by with_unfolding_all rfl) ⟨fun _ => am_rec_ok (c := 14) (by with_unfolding_all rfl) (by decide +kernel), fun z => by simp at z⟩
set_option maxRecDepth 20000 in
theorem b_290_92 {d nS : Nat} {x1 x2 s1 s2 : Int32} {M : am_M} {Q : Option Value → am_H → Prop} (h1 : vp_in s1 600) : am_Wp d 290 92 [.ref 205, .int x1, .int x2] [.int s2, .int s1, .ref 211] (hp nS M) Q = am_Wp d 290 70 [.ref 205, .int x1, .int (x2 + 1)] [] (hp nS (am_up M 211 s1.toNatClampNeg s2)) Q := by
  refine (eq_ast (e := (.iastore, 1, 0, 0, 0)) (by with_unfolding_all rfl) rfl (n := 600) (by with_unfolding_all rfl) (by decide) h1).trans ?_
  exact eq_run 2 (q := (70, [.ref 205, .int x1, .int (x2 + 1)], [], hp nS (am_up M 211 s1.toNatClampNeg s2))) (by with_unfolding_all rfl)
set_option maxRecDepth 20000 in
theorem b_290_99 {d nS : Nat} {x1 x2 : Int32} {M : am_M} {Q : Option Value → am_H → Prop} : am_Wp (d + 1) 290 99 [.ref 205, .int x1, .int x2] [] (hp nS M) Q = am_Wp d 293 0 [.ref 205, .retAddr 0] [] (hp nS M) (fun v h1 => am_Wp (d + 1) 290 103 [.ref 205, .int x1, .int x2] (am_ans v []) h1 Q) := by
  refine (eq_run 1 (q := (100, [.ref 205, .int x1, .int x2], [.ref 205], hp nS M)) (by with_unfolding_all rfl)).trans ?_
  exact eq_call2 (e := (.invokevirtual 482, 3, 0, 293, 362)) (as := [.ref 205]) (r := []) (n := 1) (m := 2) (by with_unfolding_all rfl) rfl (by decide) (by with_unfolding_all rfl) (by decide) (by with_unfolding_all rfl) ⟨fun _ => am_rec_ok (c := 14) (by with_unfolding_all rfl) (by decide +kernel), fun z => by simp at z⟩
set_option maxRecDepth 20000 in
theorem b_290_103 {d nS : Nat} {x1 x2 : Int32} {M : am_M} {Q : Option Value → am_H → Prop} : am_Wp d 290 103 [.ref 205, .int x1, .int x2] [] (hp nS M) Q = if ¬ x1 = 0 then am_Wp d 290 112 [.ref 205, .int x1, .int x2] [] (hp nS M) Q else am_Wp d 290 107 [.ref 205, .int x1, .int x2] [] (hp nS M) Q := by
  refine (eq_run 1 (q := (104, [.ref 205, .int x1, .int x2], [.int x1], hp nS M)) (by with_unfolding_all rfl)).trans ?_
  exact eq_if_ne (by with_unfolding_all rfl)
set_option maxRecDepth 20000 in
theorem b_290_107 {d nS : Nat} {x1 x2 : Int32} {M : am_M} {Q : Option Value → am_H → Prop} : am_Wp d 290 107 [.ref 205, .int x1, .int x2] [] (hp nS M) Q = am_Wp d 290 112 [.ref 205, .int x1, .int x2] [] (hp nS (am_up M 205 5 0)) Q := by
  exact eq_run 3 (q := (112, [.ref 205, .int x1, .int x2], [], hp nS (am_up M 205 5 0))) (by with_unfolding_all rfl)
set_option maxRecDepth 20000 in
theorem b_290_112 {d nS : Nat} {x1 x2 : Int32} {M : am_M} {Q : Option Value → am_H → Prop} : am_Wp d 290 112 [.ref 205, .int x1, .int x2] [] (hp nS M) Q = Q (some (.int 1)) (hp nS M) := by
  refine (eq_run 1 (q := (113, [.ref 205, .int x1, .int x2], [.int 1], hp nS M)) (by with_unfolding_all rfl)).trans ?_
  exact eq_retI2 (e := (.ireturn, 1, 0, 0, 0)) (t := .boolean) (by with_unfolding_all rfl) rfl (by with_unfolding_all rfl) rfl
set_option maxRecDepth 20000 in
theorem b_291_0 {d nS : Nat} {x1 : Int32} {M : am_M} {Q : Option Value → am_H → Prop} : am_Wp d 291 0 [.ref 205, .int x1] [] (hp nS M) Q = if ¬ ((am_up M 205 61 ((M 205 61) + 1)) 205 59) = 0 then am_Wp d 291 29 [.ref 205, .int x1] [] (hp nS (am_up M 205 61 ((M 205 61) + 1))) Q else am_Wp d 291 17 [.ref 205, .int x1] [] (hp nS (am_up M 205 61 ((M 205 61) + 1))) Q := by
  refine (eq_run 8 (q := (14, [.ref 205, .int x1], [.int ((am_up M 205 61 ((M 205 61) + 1)) 205 59)], hp nS (am_up M 205 61 ((M 205 61) + 1)))) (by with_unfolding_all rfl)).trans ?_
  exact eq_if_ne (by with_unfolding_all rfl)
set_option maxRecDepth 20000 in
theorem b_291_17 {d nS : Nat} {x1 : Int32} {M : am_M} {Q : Option Value → am_H → Prop} (h1 : vp_in ((M 205 61) - 1) 2200) : am_Wp d 291 17 [.ref 205, .int x1] [] (hp nS M) Q = Q (some (.int (M 238 ((M 205 61) - 1).toNatClampNeg))) (hp nS M) := by
  refine (eq_run 6 (q := (27, [.ref 205, .int x1], [.int ((M 205 61) - 1), .ref 238], hp nS M)) (by with_unfolding_all rfl)).trans ?_
  refine (eq_ald (e := (.iaload, 1, 0, 0, 0)) (by with_unfolding_all rfl) rfl (n := 2200) (by with_unfolding_all rfl) h1).trans ?_
  exact eq_retI2 (e := (.ireturn, 1, 0, 0, 0)) (t := .int) (by with_unfolding_all rfl) rfl (by with_unfolding_all rfl) rfl
set_option maxRecDepth 20000 in
theorem b_291_29 {d nS : Nat} {x1 : Int32} {M : am_M} {Q : Option Value → am_H → Prop} (h1 : vp_in ((M 205 61) - 1) 2200) : am_Wp d 291 29 [.ref 205, .int x1] [] (hp nS M) Q = Q (some (.int x1)) (hp nS (am_up M 238 ((M 205 61) - 1).toNatClampNeg x1)) := by
  refine (eq_run 7 (q := (40, [.ref 205, .int x1], [.int x1, .int ((M 205 61) - 1), .ref 238], hp nS M)) (by with_unfolding_all rfl)).trans ?_
  refine (eq_ast (e := (.iastore, 1, 0, 0, 0)) (by with_unfolding_all rfl) rfl (n := 2200) (by with_unfolding_all rfl) (by decide) h1).trans ?_
  refine (eq_run 1 (q := (42, [.ref 205, .int x1], [.int x1], hp nS (am_up M 238 ((M 205 61) - 1).toNatClampNeg x1))) (by with_unfolding_all rfl)).trans ?_
  exact eq_retI2 (e := (.ireturn, 1, 0, 0, 0)) (t := .int) (by with_unfolding_all rfl) rfl (by with_unfolding_all rfl) rfl
set_option maxRecDepth 20000 in
theorem b_292_0 {d nS : Nat} {M : am_M} {Q : Option Value → am_H → Prop} : am_Wp (d + 1) 292 0 [.ref 205, .retAddr 0] [] (hp nS M) Q = am_Wp d 291 0 [.ref 205, .int (M 205 8)] [] (hp nS M) (fun v h1 => am_Wp (d + 1) 292 9 [.ref 205, .retAddr 0] (am_ans v [.ref 205]) h1 Q) := by
  refine (eq_run 4 (q := (6, [.ref 205, .retAddr 0], [.int (M 205 8), .ref 205, .ref 205], hp nS M)) (by with_unfolding_all rfl)).trans ?_
  exact eq_call2 (e := (.invokevirtual 473, 3, 0, 291, 360)) (as := [.ref 205, .int (M 205 8)]) (r := [.ref 205]) (n := 2) (m := 2) (by with_unfolding_all rfl) rfl (by decide) (by with_unfolding_all rfl) (by decide) (by with_unfolding_all rfl) ⟨fun _ => am_rec_ok (c := 14) (by with_unfolding_all rfl) (by decide +kernel), fun z => by simp at z⟩
set_option maxRecDepth 20000 in
theorem b_292_9 {d nS : Nat} {s1 : Int32} {M : am_M} {Q : Option Value → am_H → Prop} : am_Wp (d + 1) 292 9 [.ref 205, .retAddr 0] [.int s1, .ref 205] (hp nS M) Q = am_Wp d 291 0 [.ref 205, .int ((am_up M 205 8 s1) 205 9)] [] (hp nS (am_up M 205 8 s1)) (fun v h1 => am_Wp (d + 1) 292 21 [.ref 205, .retAddr 0] (am_ans v [.ref 205]) h1 Q) := by
  refine (eq_run 5 (q := (18, [.ref 205, .retAddr 0], [.int ((am_up M 205 8 s1) 205 9), .ref 205, .ref 205], hp nS (am_up M 205 8 s1))) (by with_unfolding_all rfl)).trans ?_
  exact eq_call2 (e := (.invokevirtual 473, 3, 0, 291, 360)) (as := [.ref 205, .int ((am_up M 205 8 s1) 205 9)]) (r := [.ref 205]) (n := 2) (m := 2) (by with_unfolding_all rfl) rfl (by decide) (by with_unfolding_all rfl) (by decide) (by with_unfolding_all rfl) ⟨fun _ => am_rec_ok (c := 14) (by with_unfolding_all rfl) (by decide +kernel), fun z => by simp at z⟩
set_option maxRecDepth 20000 in
theorem b_292_21 {d nS : Nat} {s1 : Int32} {M : am_M} {Q : Option Value → am_H → Prop} : am_Wp (d + 1) 292 21 [.ref 205, .retAddr 0] [.int s1, .ref 205] (hp nS M) Q = am_Wp d 291 0 [.ref 205, .int ((am_up M 205 9 s1) 205 10)] [] (hp nS (am_up M 205 9 s1)) (fun v h1 => am_Wp (d + 1) 292 33 [.ref 205, .retAddr 0] (am_ans v [.ref 205]) h1 Q) := by
  refine (eq_run 5 (q := (30, [.ref 205, .retAddr 0], [.int ((am_up M 205 9 s1) 205 10), .ref 205, .ref 205], hp nS (am_up M 205 9 s1))) (by with_unfolding_all rfl)).trans ?_
  exact eq_call2 (e := (.invokevirtual 473, 3, 0, 291, 360)) (as := [.ref 205, .int ((am_up M 205 9 s1) 205 10)]) (r := [.ref 205]) (n := 2) (m := 2) (by with_unfolding_all rfl) rfl (by decide) (by with_unfolding_all rfl) (by decide) (by with_unfolding_all rfl) ⟨fun _ => am_rec_ok (c := 14) (by with_unfolding_all rfl) (by decide +kernel), fun z => by simp at z⟩
set_option maxRecDepth 20000 in
theorem b_292_33 {d nS : Nat} {s1 : Int32} {M : am_M} {Q : Option Value → am_H → Prop} : am_Wp (d + 1) 292 33 [.ref 205, .retAddr 0] [.int s1, .ref 205] (hp nS M) Q = am_Wp d 291 0 [.ref 205, .int ((am_up M 205 10 s1) 205 37)] [] (hp nS (am_up M 205 10 s1)) (fun v h1 => am_Wp (d + 1) 292 45 [.ref 205, .retAddr 0] (am_ans v [.ref 205]) h1 Q) := by
  refine (eq_run 5 (q := (42, [.ref 205, .retAddr 0], [.int ((am_up M 205 10 s1) 205 37), .ref 205, .ref 205], hp nS (am_up M 205 10 s1))) (by with_unfolding_all rfl)).trans ?_
  exact eq_call2 (e := (.invokevirtual 473, 3, 0, 291, 360)) (as := [.ref 205, .int ((am_up M 205 10 s1) 205 37)]) (r := [.ref 205]) (n := 2) (m := 2) (by with_unfolding_all rfl) rfl (by decide) (by with_unfolding_all rfl) (by decide) (by with_unfolding_all rfl) ⟨fun _ => am_rec_ok (c := 14) (by with_unfolding_all rfl) (by decide +kernel), fun z => by simp at z⟩
set_option maxRecDepth 20000 in
theorem b_292_45 {d nS : Nat} {s1 : Int32} {M : am_M} {Q : Option Value → am_H → Prop} : am_Wp (d + 1) 292 45 [.ref 205, .retAddr 0] [.int s1, .ref 205] (hp nS M) Q = am_Wp d 291 0 [.ref 205, .int ((am_up M 205 37 s1) 205 39)] [] (hp nS (am_up M 205 37 s1)) (fun v h1 => am_Wp (d + 1) 292 57 [.ref 205, .retAddr 0] (am_ans v [.ref 205]) h1 Q) := by
  refine (eq_run 5 (q := (54, [.ref 205, .retAddr 0], [.int ((am_up M 205 37 s1) 205 39), .ref 205, .ref 205], hp nS (am_up M 205 37 s1))) (by with_unfolding_all rfl)).trans ?_
  exact eq_call2 (e := (.invokevirtual 473, 3, 0, 291, 360)) (as := [.ref 205, .int ((am_up M 205 37 s1) 205 39)]) (r := [.ref 205]) (n := 2) (m := 2) (by with_unfolding_all rfl) rfl (by decide) (by with_unfolding_all rfl) (by decide) (by with_unfolding_all rfl) ⟨fun _ => am_rec_ok (c := 14) (by with_unfolding_all rfl) (by decide +kernel), fun z => by simp at z⟩
set_option maxRecDepth 20000 in
theorem b_292_57 {d nS : Nat} {s1 : Int32} {M : am_M} {Q : Option Value → am_H → Prop} : am_Wp (d + 1) 292 57 [.ref 205, .retAddr 0] [.int s1, .ref 205] (hp nS M) Q = am_Wp d 291 0 [.ref 205, .int ((am_up M 205 39 s1) 205 41)] [] (hp nS (am_up M 205 39 s1)) (fun v h1 => am_Wp (d + 1) 292 69 [.ref 205, .retAddr 0] (am_ans v [.ref 205]) h1 Q) := by
  refine (eq_run 5 (q := (66, [.ref 205, .retAddr 0], [.int ((am_up M 205 39 s1) 205 41), .ref 205, .ref 205], hp nS (am_up M 205 39 s1))) (by with_unfolding_all rfl)).trans ?_
  exact eq_call2 (e := (.invokevirtual 473, 3, 0, 291, 360)) (as := [.ref 205, .int ((am_up M 205 39 s1) 205 41)]) (r := [.ref 205]) (n := 2) (m := 2) (by with_unfolding_all rfl) rfl (by decide) (by with_unfolding_all rfl) (by decide) (by with_unfolding_all rfl) ⟨fun _ => am_rec_ok (c := 14) (by with_unfolding_all rfl) (by decide +kernel), fun z => by simp at z⟩
set_option maxRecDepth 20000 in
theorem b_292_69 {d nS : Nat} {s1 : Int32} {M : am_M} {Q : Option Value → am_H → Prop} : am_Wp (d + 1) 292 69 [.ref 205, .retAddr 0] [.int s1, .ref 205] (hp nS M) Q = am_Wp d 291 0 [.ref 205, .int ((am_up M 205 41 s1) 205 45)] [] (hp nS (am_up M 205 41 s1)) (fun v h1 => am_Wp (d + 1) 292 81 [.ref 205, .retAddr 0] (am_ans v [.ref 205]) h1 Q) := by
  refine (eq_run 5 (q := (78, [.ref 205, .retAddr 0], [.int ((am_up M 205 41 s1) 205 45), .ref 205, .ref 205], hp nS (am_up M 205 41 s1))) (by with_unfolding_all rfl)).trans ?_
  exact eq_call2 (e := (.invokevirtual 473, 3, 0, 291, 360)) (as := [.ref 205, .int ((am_up M 205 41 s1) 205 45)]) (r := [.ref 205]) (n := 2) (m := 2) (by with_unfolding_all rfl) rfl (by decide) (by with_unfolding_all rfl) (by decide) (by with_unfolding_all rfl) ⟨fun _ => am_rec_ok (c := 14) (by with_unfolding_all rfl) (by decide +kernel), fun z => by simp at z⟩
set_option maxRecDepth 20000 in
theorem b_292_81 {d nS : Nat} {s1 : Int32} {M : am_M} {Q : Option Value → am_H → Prop} : am_Wp (d + 1) 292 81 [.ref 205, .retAddr 0] [.int s1, .ref 205] (hp nS M) Q = am_Wp d 291 0 [.ref 205, .int ((am_up M 205 45 s1) 205 51)] [] (hp nS (am_up M 205 45 s1)) (fun v h1 => am_Wp (d + 1) 292 93 [.ref 205, .retAddr 0] (am_ans v [.ref 205]) h1 Q) := by
  refine (eq_run 5 (q := (90, [.ref 205, .retAddr 0], [.int ((am_up M 205 45 s1) 205 51), .ref 205, .ref 205], hp nS (am_up M 205 45 s1))) (by with_unfolding_all rfl)).trans ?_
  exact eq_call2 (e := (.invokevirtual 473, 3, 0, 291, 360)) (as := [.ref 205, .int ((am_up M 205 45 s1) 205 51)]) (r := [.ref 205]) (n := 2) (m := 2) (by with_unfolding_all rfl) rfl (by decide) (by with_unfolding_all rfl) (by decide) (by with_unfolding_all rfl) ⟨fun _ => am_rec_ok (c := 14) (by with_unfolding_all rfl) (by decide +kernel), fun z => by simp at z⟩
set_option maxRecDepth 20000 in
theorem b_292_93 {d nS : Nat} {s1 : Int32} {M : am_M} {Q : Option Value → am_H → Prop} : am_Wp (d + 1) 292 93 [.ref 205, .retAddr 0] [.int s1, .ref 205] (hp nS M) Q = am_Wp d 291 0 [.ref 205, .int ((am_up M 205 51 s1) 205 54)] [] (hp nS (am_up M 205 51 s1)) (fun v h1 => am_Wp (d + 1) 292 105 [.ref 205, .retAddr 0] (am_ans v [.ref 205]) h1 Q) := by
  refine (eq_run 5 (q := (102, [.ref 205, .retAddr 0], [.int ((am_up M 205 51 s1) 205 54), .ref 205, .ref 205], hp nS (am_up M 205 51 s1))) (by with_unfolding_all rfl)).trans ?_
  exact eq_call2 (e := (.invokevirtual 473, 3, 0, 291, 360)) (as := [.ref 205, .int ((am_up M 205 51 s1) 205 54)]) (r := [.ref 205]) (n := 2) (m := 2) (by with_unfolding_all rfl) rfl (by decide) (by with_unfolding_all rfl) (by decide) (by with_unfolding_all rfl) ⟨fun _ => am_rec_ok (c := 14) (by with_unfolding_all rfl) (by decide +kernel), fun z => by simp at z⟩
set_option maxRecDepth 20000 in
theorem b_292_105 {d nS : Nat} {s1 : Int32} {M : am_M} {Q : Option Value → am_H → Prop} : am_Wp d 292 105 [.ref 205, .retAddr 0] [.int s1, .ref 205] (hp nS M) Q = am_Wp d 292 110 [.ref 205, .int 0] [] (hp nS (am_up M 205 54 s1)) Q := by
  exact eq_run 3 (q := (110, [.ref 205, .int 0], [], hp nS (am_up M 205 54 s1))) (by with_unfolding_all rfl)
set_option maxRecDepth 20000 in
theorem b_292_110 {d nS : Nat} {x1 : Int32} {M : am_M} {Q : Option Value → am_H → Prop} : am_Wp d 292 110 [.ref 205, .int x1] [] (hp nS M) Q = if 6 ≤ x1 then am_Wp d 292 138 [.ref 205, .int x1] [] (hp nS M) Q else am_Wp d 292 116 [.ref 205, .int x1] [] (hp nS M) Q := by
  refine (eq_run 2 (q := (113, [.ref 205, .int x1], [.int 6, .int x1], hp nS M)) (by with_unfolding_all rfl)).trans ?_
  exact eq_cmp_ge (by with_unfolding_all rfl)
set_option maxRecDepth 20000 in
theorem b_292_116 {d nS : Nat} {x1 : Int32} {M : am_M} {Q : Option Value → am_H → Prop} (h1 : vp_in x1 6) : am_Wp (d + 1) 292 116 [.ref 205, .int x1] [] (hp nS M) Q = am_Wp d 291 0 [.ref 205, .int (M 209 x1.toNatClampNeg)] [] (hp nS M) (fun v h1 => am_Wp (d + 1) 292 131 [.ref 205, .int x1] (am_ans v [.int x1, .ref 209]) h1 Q) := by
  refine (eq_run 7 (q := (127, [.ref 205, .int x1], [.int x1, .ref 209, .ref 205, .int x1, .ref 209], hp nS M)) (by with_unfolding_all rfl)).trans ?_
  refine (eq_ald (e := (.iaload, 1, 0, 0, 0)) (by with_unfolding_all rfl) rfl (n := 6) (by with_unfolding_all rfl) h1).trans ?_
  exact eq_call2 (e := (.invokevirtual 473, 3, 0, 291, 360)) (as := [.ref 205, .int (M 209 x1.toNatClampNeg)]) (r := [.int x1, .ref 209]) (n := 2) (m := 2) (by with_unfolding_all rfl) rfl (by decide) (by with_unfolding_all rfl) (by decide) (by with_unfolding_all rfl) ⟨fun _ => am_rec_ok (c := 14) (by with_unfolding_all rfl) (by decide +kernel), fun z => by simp at z⟩
set_option maxRecDepth 20000 in
theorem b_292_131 {d nS : Nat} {x1 s1 s2 : Int32} {M : am_M} {Q : Option Value → am_H → Prop} (h1 : vp_in s1 6) : am_Wp d 292 131 [.ref 205, .int x1] [.int s2, .int s1, .ref 209] (hp nS M) Q = am_Wp d 292 110 [.ref 205, .int (x1 + 1)] [] (hp nS (am_up M 209 s1.toNatClampNeg s2)) Q := by
  refine (eq_ast (e := (.iastore, 1, 0, 0, 0)) (by with_unfolding_all rfl) rfl (n := 6) (by with_unfolding_all rfl) (by decide) h1).trans ?_
  exact eq_run 2 (q := (110, [.ref 205, .int (x1 + 1)], [], hp nS (am_up M 209 s1.toNatClampNeg s2))) (by with_unfolding_all rfl)
set_option maxRecDepth 20000 in
theorem b_292_138 {d nS : Nat} {x1 : Int32} {M : am_M} {Q : Option Value → am_H → Prop} : am_Wp d 292 138 [.ref 205, .int x1] [] (hp nS M) Q = am_Wp d 292 140 [.ref 205, .int 0] [] (hp nS M) Q := by
  exact eq_run 2 (q := (140, [.ref 205, .int 0], [], hp nS M)) (by with_unfolding_all rfl)
set_option maxRecDepth 20000 in
theorem b_292_140 {d nS : Nat} {x1 : Int32} {M : am_M} {Q : Option Value → am_H → Prop} : am_Wp d 292 140 [.ref 205, .int x1] [] (hp nS M) Q = if 8 ≤ x1 then am_Wp d 292 232 [.ref 205, .int x1] [] (hp nS M) Q else am_Wp d 292 146 [.ref 205, .int x1] [] (hp nS M) Q := by
  refine (eq_run 2 (q := (143, [.ref 205, .int x1], [.int 8, .int x1], hp nS M)) (by with_unfolding_all rfl)).trans ?_
  exact eq_cmp_ge (by with_unfolding_all rfl)
set_option maxRecDepth 20000 in
theorem b_292_146 {d nS : Nat} {x1 : Int32} {M : am_M} {Q : Option Value → am_H → Prop} (h1 : vp_in x1 8) : am_Wp (d + 1) 292 146 [.ref 205, .int x1] [] (hp nS M) Q = am_Wp d 291 0 [.ref 205, .int (M 210 x1.toNatClampNeg)] [] (hp nS M) (fun v h1 => am_Wp (d + 1) 292 161 [.ref 205, .int x1] (am_ans v [.int x1, .ref 210]) h1 Q) := by
  refine (eq_run 7 (q := (157, [.ref 205, .int x1], [.int x1, .ref 210, .ref 205, .int x1, .ref 210], hp nS M)) (by with_unfolding_all rfl)).trans ?_
  refine (eq_ald (e := (.iaload, 1, 0, 0, 0)) (by with_unfolding_all rfl) rfl (n := 8) (by with_unfolding_all rfl) h1).trans ?_
  exact eq_call2 (e := (.invokevirtual 473, 3, 0, 291, 360)) (as := [.ref 205, .int (M 210 x1.toNatClampNeg)]) (r := [.int x1, .ref 210]) (n := 2) (m := 2) (by with_unfolding_all rfl) rfl (by decide) (by with_unfolding_all rfl) (by decide) (by with_unfolding_all rfl) ⟨fun _ => am_rec_ok (c := 14) (by with_unfolding_all rfl) (by decide +kernel), fun z => by simp at z⟩
set_option maxRecDepth 20000 in
theorem b_292_161 {d nS : Nat} {x1 s1 s2 : Int32} {M : am_M} {Q : Option Value → am_H → Prop} (h1 : vp_in s1 8) (h2 : vp_in x1 16) : am_Wp (d + 1) 292 161 [.ref 205, .int x1] [.int s2, .int s1, .ref 210] (hp nS M) Q = am_Wp d 291 0 [.ref 205, .int ((am_up M 210 s1.toNatClampNeg s2) 224 x1.toNatClampNeg)] [] (hp nS (am_up M 210 s1.toNatClampNeg s2)) (fun v h1 => am_Wp (d + 1) 292 177 [.ref 205, .int x1] (am_ans v [.int x1, .ref 224]) h1 Q) := by
  refine (eq_ast (e := (.iastore, 1, 0, 0, 0)) (by with_unfolding_all rfl) rfl (n := 8) (by with_unfolding_all rfl) (by decide) h1).trans ?_
  refine (eq_run 7 (q := (173, [.ref 205, .int x1], [.int x1, .ref 224, .ref 205, .int x1, .ref 224], hp nS (am_up M 210 s1.toNatClampNeg s2))) (by with_unfolding_all rfl)).trans ?_
  refine (eq_ald (e := (.iaload, 1, 0, 0, 0)) (by with_unfolding_all rfl) rfl (n := 16) (by with_unfolding_all rfl) h2).trans ?_
  exact eq_call2 (e := (.invokevirtual 473, 3, 0, 291, 360)) (as := [.ref 205, .int ((am_up M 210 s1.toNatClampNeg s2) 224 x1.toNatClampNeg)]) (r := [.int x1, .ref 224]) (n := 2) (m := 2) (by with_unfolding_all rfl) rfl (by decide) (by with_unfolding_all rfl) (by decide) (by with_unfolding_all rfl) ⟨fun _ => am_rec_ok (c := 14) (by with_unfolding_all rfl) (by decide +kernel), fun z => by simp at z⟩
set_option maxRecDepth 20000 in
theorem b_292_177 {d nS : Nat} {x1 s1 s2 : Int32} {M : am_M} {Q : Option Value → am_H → Prop} (h1 : vp_in s1 16) (h2 : vp_in x1 8) : am_Wp (d + 1) 292 177 [.ref 205, .int x1] [.int s2, .int s1, .ref 224] (hp nS M) Q = am_Wp d 291 0 [.ref 205, .int ((am_up M 224 s1.toNatClampNeg s2) 232 x1.toNatClampNeg)] [] (hp nS (am_up M 224 s1.toNatClampNeg s2)) (fun v h1 => am_Wp (d + 1) 292 193 [.ref 205, .int x1] (am_ans v [.int x1, .ref 232]) h1 Q) := by
  refine (eq_ast (e := (.iastore, 1, 0, 0, 0)) (by with_unfolding_all rfl) rfl (n := 16) (by with_unfolding_all rfl) (by decide) h1).trans ?_
  refine (eq_run 7 (q := (189, [.ref 205, .int x1], [.int x1, .ref 232, .ref 205, .int x1, .ref 232], hp nS (am_up M 224 s1.toNatClampNeg s2))) (by with_unfolding_all rfl)).trans ?_
  refine (eq_ald (e := (.iaload, 1, 0, 0, 0)) (by with_unfolding_all rfl) rfl (n := 8) (by with_unfolding_all rfl) h2).trans ?_
  exact eq_call2 (e := (.invokevirtual 473, 3, 0, 291, 360)) (as := [.ref 205, .int ((am_up M 224 s1.toNatClampNeg s2) 232 x1.toNatClampNeg)]) (r := [.int x1, .ref 232]) (n := 2) (m := 2) (by with_unfolding_all rfl) rfl (by decide) (by with_unfolding_all rfl) (by decide) (by with_unfolding_all rfl) ⟨fun _ => am_rec_ok (c := 14) (by with_unfolding_all rfl) (by decide +kernel), fun z => by simp at z⟩
set_option maxRecDepth 20000 in
theorem b_292_193 {d nS : Nat} {x1 s1 s2 : Int32} {M : am_M} {Q : Option Value → am_H → Prop} (h1 : vp_in s1 8) (h2 : vp_in x1 8) : am_Wp (d + 1) 292 193 [.ref 205, .int x1] [.int s2, .int s1, .ref 232] (hp nS M) Q = am_Wp d 291 0 [.ref 205, .int ((am_up M 232 s1.toNatClampNeg s2) 234 x1.toNatClampNeg)] [] (hp nS (am_up M 232 s1.toNatClampNeg s2)) (fun v h1 => am_Wp (d + 1) 292 209 [.ref 205, .int x1] (am_ans v [.int x1, .ref 234]) h1 Q) := by
  refine (eq_ast (e := (.iastore, 1, 0, 0, 0)) (by with_unfolding_all rfl) rfl (n := 8) (by with_unfolding_all rfl) (by decide) h1).trans ?_
  refine (eq_run 7 (q := (205, [.ref 205, .int x1], [.int x1, .ref 234, .ref 205, .int x1, .ref 234], hp nS (am_up M 232 s1.toNatClampNeg s2))) (by with_unfolding_all rfl)).trans ?_
  refine (eq_ald (e := (.iaload, 1, 0, 0, 0)) (by with_unfolding_all rfl) rfl (n := 8) (by with_unfolding_all rfl) h2).trans ?_
  exact eq_call2 (e := (.invokevirtual 473, 3, 0, 291, 360)) (as := [.ref 205, .int ((am_up M 232 s1.toNatClampNeg s2) 234 x1.toNatClampNeg)]) (r := [.int x1, .ref 234]) (n := 2) (m := 2) (by with_unfolding_all rfl) rfl (by decide) (by with_unfolding_all rfl) (by decide) (by with_unfolding_all rfl) ⟨fun _ => am_rec_ok (c := 14) (by with_unfolding_all rfl) (by decide +kernel), fun z => by simp at z⟩
set_option maxRecDepth 20000 in
theorem b_292_209 {d nS : Nat} {x1 s1 s2 : Int32} {M : am_M} {Q : Option Value → am_H → Prop} (h1 : vp_in s1 8) (h2 : vp_in x1 8) : am_Wp (d + 1) 292 209 [.ref 205, .int x1] [.int s2, .int s1, .ref 234] (hp nS M) Q = am_Wp d 291 0 [.ref 205, .int ((am_up M 234 s1.toNatClampNeg s2) 235 x1.toNatClampNeg)] [] (hp nS (am_up M 234 s1.toNatClampNeg s2)) (fun v h1 => am_Wp (d + 1) 292 225 [.ref 205, .int x1] (am_ans v [.int x1, .ref 235]) h1 Q) := by
  refine (eq_ast (e := (.iastore, 1, 0, 0, 0)) (by with_unfolding_all rfl) rfl (n := 8) (by with_unfolding_all rfl) (by decide) h1).trans ?_
  refine (eq_run 7 (q := (221, [.ref 205, .int x1], [.int x1, .ref 235, .ref 205, .int x1, .ref 235], hp nS (am_up M 234 s1.toNatClampNeg s2))) (by with_unfolding_all rfl)).trans ?_
  refine (eq_ald (e := (.iaload, 1, 0, 0, 0)) (by with_unfolding_all rfl) rfl (n := 8) (by with_unfolding_all rfl) h2).trans ?_
  exact eq_call2 (e := (.invokevirtual 473, 3, 0, 291, 360)) (as := [.ref 205, .int ((am_up M 234 s1.toNatClampNeg s2) 235 x1.toNatClampNeg)]) (r := [.int x1, .ref 235]) (n := 2) (m := 2) (by with_unfolding_all rfl) rfl (by decide) (by with_unfolding_all rfl) (by decide) (by with_unfolding_all rfl) ⟨fun _ => am_rec_ok (c := 14) (by with_unfolding_all rfl) (by decide +kernel), fun z => by simp at z⟩
set_option maxRecDepth 20000 in
theorem b_292_225 {d nS : Nat} {x1 s1 s2 : Int32} {M : am_M} {Q : Option Value → am_H → Prop} (h1 : vp_in s1 8) : am_Wp d 292 225 [.ref 205, .int x1] [.int s2, .int s1, .ref 235] (hp nS M) Q = am_Wp d 292 140 [.ref 205, .int (x1 + 1)] [] (hp nS (am_up M 235 s1.toNatClampNeg s2)) Q := by
  refine (eq_ast (e := (.iastore, 1, 0, 0, 0)) (by with_unfolding_all rfl) rfl (n := 8) (by with_unfolding_all rfl) (by decide) h1).trans ?_
  exact eq_run 2 (q := (140, [.ref 205, .int (x1 + 1)], [], hp nS (am_up M 235 s1.toNatClampNeg s2))) (by with_unfolding_all rfl)
set_option maxRecDepth 20000 in
theorem b_292_232 {d nS : Nat} {x1 : Int32} {M : am_M} {Q : Option Value → am_H → Prop} : am_Wp d 292 232 [.ref 205, .int x1] [] (hp nS M) Q = am_Wp d 292 234 [.ref 205, .int 0] [] (hp nS M) Q := by
  exact eq_run 2 (q := (234, [.ref 205, .int 0], [], hp nS M)) (by with_unfolding_all rfl)
set_option maxRecDepth 20000 in
theorem b_292_234 {d nS : Nat} {x1 : Int32} {M : am_M} {Q : Option Value → am_H → Prop} : am_Wp d 292 234 [.ref 205, .int x1] [] (hp nS M) Q = if 64 ≤ x1 then am_Wp d 292 278 [.ref 205, .int x1] [] (hp nS M) Q else am_Wp d 292 240 [.ref 205, .int x1] [] (hp nS M) Q := by
  refine (eq_run 2 (q := (237, [.ref 205, .int x1], [.int 64, .int x1], hp nS M)) (by with_unfolding_all rfl)).trans ?_
  exact eq_cmp_ge (by with_unfolding_all rfl)
set_option maxRecDepth 20000 in
theorem b_292_240 {d nS : Nat} {x1 : Int32} {M : am_M} {Q : Option Value → am_H → Prop} (h1 : vp_in x1 128) : am_Wp (d + 1) 292 240 [.ref 205, .int x1] [] (hp nS M) Q = am_Wp d 291 0 [.ref 205, .int (M 222 x1.toNatClampNeg)] [] (hp nS M) (fun v h1 => am_Wp (d + 1) 292 255 [.ref 205, .int x1] (am_ans v [.int x1, .ref 222]) h1 Q) := by
  refine (eq_run 7 (q := (251, [.ref 205, .int x1], [.int x1, .ref 222, .ref 205, .int x1, .ref 222], hp nS M)) (by with_unfolding_all rfl)).trans ?_
  refine (eq_ald (e := (.iaload, 1, 0, 0, 0)) (by with_unfolding_all rfl) rfl (n := 128) (by with_unfolding_all rfl) h1).trans ?_
  exact eq_call2 (e := (.invokevirtual 473, 3, 0, 291, 360)) (as := [.ref 205, .int (M 222 x1.toNatClampNeg)]) (r := [.int x1, .ref 222]) (n := 2) (m := 2) (by with_unfolding_all rfl) rfl (by decide) (by with_unfolding_all rfl) (by decide) (by with_unfolding_all rfl) ⟨fun _ => am_rec_ok (c := 14) (by with_unfolding_all rfl) (by decide +kernel), fun z => by simp at z⟩
set_option maxRecDepth 20000 in
theorem b_292_255 {d nS : Nat} {x1 s1 s2 : Int32} {M : am_M} {Q : Option Value → am_H → Prop} (h1 : vp_in s1 128) (h2 : vp_in x1 128) : am_Wp (d + 1) 292 255 [.ref 205, .int x1] [.int s2, .int s1, .ref 222] (hp nS M) Q = am_Wp d 291 0 [.ref 205, .int ((am_up M 222 s1.toNatClampNeg s2) 223 x1.toNatClampNeg)] [] (hp nS (am_up M 222 s1.toNatClampNeg s2)) (fun v h1 => am_Wp (d + 1) 292 271 [.ref 205, .int x1] (am_ans v [.int x1, .ref 223]) h1 Q) := by
  refine (eq_ast (e := (.iastore, 1, 0, 0, 0)) (by with_unfolding_all rfl) rfl (n := 128) (by with_unfolding_all rfl) (by decide) h1).trans ?_
  refine (eq_run 7 (q := (267, [.ref 205, .int x1], [.int x1, .ref 223, .ref 205, .int x1, .ref 223], hp nS (am_up M 222 s1.toNatClampNeg s2))) (by with_unfolding_all rfl)).trans ?_
  refine (eq_ald (e := (.iaload, 1, 0, 0, 0)) (by with_unfolding_all rfl) rfl (n := 128) (by with_unfolding_all rfl) h2).trans ?_
  exact eq_call2 (e := (.invokevirtual 473, 3, 0, 291, 360)) (as := [.ref 205, .int ((am_up M 222 s1.toNatClampNeg s2) 223 x1.toNatClampNeg)]) (r := [.int x1, .ref 223]) (n := 2) (m := 2) (by with_unfolding_all rfl) rfl (by decide) (by with_unfolding_all rfl) (by decide) (by with_unfolding_all rfl) ⟨fun _ => am_rec_ok (c := 14) (by with_unfolding_all rfl) (by decide +kernel), fun z => by simp at z⟩
set_option maxRecDepth 20000 in
theorem b_292_271 {d nS : Nat} {x1 s1 s2 : Int32} {M : am_M} {Q : Option Value → am_H → Prop} (h1 : vp_in s1 128) : am_Wp d 292 271 [.ref 205, .int x1] [.int s2, .int s1, .ref 223] (hp nS M) Q = am_Wp d 292 234 [.ref 205, .int (x1 + 1)] [] (hp nS (am_up M 223 s1.toNatClampNeg s2)) Q := by
  refine (eq_ast (e := (.iastore, 1, 0, 0, 0)) (by with_unfolding_all rfl) rfl (n := 128) (by with_unfolding_all rfl) (by decide) h1).trans ?_
  exact eq_run 2 (q := (234, [.ref 205, .int (x1 + 1)], [], hp nS (am_up M 223 s1.toNatClampNeg s2))) (by with_unfolding_all rfl)
set_option maxRecDepth 20000 in
theorem b_292_278 {d nS : Nat} {x1 : Int32} {M : am_M} {Q : Option Value → am_H → Prop} : am_Wp d 292 278 [.ref 205, .int x1] [] (hp nS M) Q = am_Wp d 292 280 [.ref 205, .int 0] [] (hp nS M) Q := by
  exact eq_run 2 (q := (280, [.ref 205, .int 0], [], hp nS M)) (by with_unfolding_all rfl)
set_option maxRecDepth 20000 in
theorem b_292_280 {d nS : Nat} {x1 : Int32} {M : am_M} {Q : Option Value → am_H → Prop} : am_Wp d 292 280 [.ref 205, .int x1] [] (hp nS M) Q = if 14 ≤ x1 then am_Wp d 292 308 [.ref 205, .int x1] [] (hp nS M) Q else am_Wp d 292 286 [.ref 205, .int x1] [] (hp nS M) Q := by
  refine (eq_run 2 (q := (283, [.ref 205, .int x1], [.int 14, .int x1], hp nS M)) (by with_unfolding_all rfl)).trans ?_
  exact eq_cmp_ge (by with_unfolding_all rfl)
set_option maxRecDepth 20000 in
theorem b_292_286 {d nS : Nat} {x1 : Int32} {M : am_M} {Q : Option Value → am_H → Prop} (h1 : vp_in x1 14) : am_Wp (d + 1) 292 286 [.ref 205, .int x1] [] (hp nS M) Q = am_Wp d 291 0 [.ref 205, .int (M 227 x1.toNatClampNeg)] [] (hp nS M) (fun v h1 => am_Wp (d + 1) 292 301 [.ref 205, .int x1] (am_ans v [.int x1, .ref 227]) h1 Q) := by
  refine (eq_run 7 (q := (297, [.ref 205, .int x1], [.int x1, .ref 227, .ref 205, .int x1, .ref 227], hp nS M)) (by with_unfolding_all rfl)).trans ?_
  refine (eq_ald (e := (.iaload, 1, 0, 0, 0)) (by with_unfolding_all rfl) rfl (n := 14) (by with_unfolding_all rfl) h1).trans ?_
  exact eq_call2 (e := (.invokevirtual 473, 3, 0, 291, 360)) (as := [.ref 205, .int (M 227 x1.toNatClampNeg)]) (r := [.int x1, .ref 227]) (n := 2) (m := 2) (by with_unfolding_all rfl) rfl (by decide) (by with_unfolding_all rfl) (by decide) (by with_unfolding_all rfl) ⟨fun _ => am_rec_ok (c := 14) (by with_unfolding_all rfl) (by decide +kernel), fun z => by simp at z⟩
set_option maxRecDepth 20000 in
theorem b_292_301 {d nS : Nat} {x1 s1 s2 : Int32} {M : am_M} {Q : Option Value → am_H → Prop} (h1 : vp_in s1 14) : am_Wp d 292 301 [.ref 205, .int x1] [.int s2, .int s1, .ref 227] (hp nS M) Q = am_Wp d 292 280 [.ref 205, .int (x1 + 1)] [] (hp nS (am_up M 227 s1.toNatClampNeg s2)) Q := by
  refine (eq_ast (e := (.iastore, 1, 0, 0, 0)) (by with_unfolding_all rfl) rfl (n := 14) (by with_unfolding_all rfl) (by decide) h1).trans ?_
  exact eq_run 2 (q := (280, [.ref 205, .int (x1 + 1)], [], hp nS (am_up M 227 s1.toNatClampNeg s2))) (by with_unfolding_all rfl)
set_option maxRecDepth 20000 in
theorem b_292_308 {d nS : Nat} {x1 : Int32} {M : am_M} {Q : Option Value → am_H → Prop} : am_Wp d 292 308 [.ref 205, .int x1] [] (hp nS M) Q = am_Wp d 292 310 [.ref 205, .int 0] [] (hp nS M) Q := by
  exact eq_run 2 (q := (310, [.ref 205, .int 0], [], hp nS M)) (by with_unfolding_all rfl)
set_option maxRecDepth 20000 in
theorem b_292_310 {d nS : Nat} {x1 : Int32} {M : am_M} {Q : Option Value → am_H → Prop} : am_Wp d 292 310 [.ref 205, .int x1] [] (hp nS M) Q = if 16 ≤ x1 then am_Wp d 292 338 [.ref 205, .int x1] [] (hp nS M) Q else am_Wp d 292 316 [.ref 205, .int x1] [] (hp nS M) Q := by
  refine (eq_run 2 (q := (313, [.ref 205, .int x1], [.int 16, .int x1], hp nS M)) (by with_unfolding_all rfl)).trans ?_
  exact eq_cmp_ge (by with_unfolding_all rfl)
set_option maxRecDepth 20000 in
theorem b_292_316 {d nS : Nat} {x1 : Int32} {M : am_M} {Q : Option Value → am_H → Prop} (h1 : vp_in x1 16) : am_Wp (d + 1) 292 316 [.ref 205, .int x1] [] (hp nS M) Q = am_Wp d 291 0 [.ref 205, .int (M 229 x1.toNatClampNeg)] [] (hp nS M) (fun v h1 => am_Wp (d + 1) 292 331 [.ref 205, .int x1] (am_ans v [.int x1, .ref 229]) h1 Q) := by
  refine (eq_run 7 (q := (327, [.ref 205, .int x1], [.int x1, .ref 229, .ref 205, .int x1, .ref 229], hp nS M)) (by with_unfolding_all rfl)).trans ?_
  refine (eq_ald (e := (.iaload, 1, 0, 0, 0)) (by with_unfolding_all rfl) rfl (n := 16) (by with_unfolding_all rfl) h1).trans ?_
  exact eq_call2 (e := (.invokevirtual 473, 3, 0, 291, 360)) (as := [.ref 205, .int (M 229 x1.toNatClampNeg)]) (r := [.int x1, .ref 229]) (n := 2) (m := 2) (by with_unfolding_all rfl) rfl (by decide) (by with_unfolding_all rfl) (by decide) (by with_unfolding_all rfl) ⟨fun _ => am_rec_ok (c := 14) (by with_unfolding_all rfl) (by decide +kernel), fun z => by simp at z⟩
set_option maxRecDepth 20000 in
theorem b_292_331 {d nS : Nat} {x1 s1 s2 : Int32} {M : am_M} {Q : Option Value → am_H → Prop} (h1 : vp_in s1 16) : am_Wp d 292 331 [.ref 205, .int x1] [.int s2, .int s1, .ref 229] (hp nS M) Q = am_Wp d 292 310 [.ref 205, .int (x1 + 1)] [] (hp nS (am_up M 229 s1.toNatClampNeg s2)) Q := by
  refine (eq_ast (e := (.iastore, 1, 0, 0, 0)) (by with_unfolding_all rfl) rfl (n := 16) (by with_unfolding_all rfl) (by decide) h1).trans ?_
  exact eq_run 2 (q := (310, [.ref 205, .int (x1 + 1)], [], hp nS (am_up M 229 s1.toNatClampNeg s2))) (by with_unfolding_all rfl)
set_option maxRecDepth 20000 in
theorem b_292_338 {d nS : Nat} {x1 : Int32} {M : am_M} {Q : Option Value → am_H → Prop} : am_Wp d 292 338 [.ref 205, .int x1] [] (hp nS M) Q = Q none (hp nS M) := by
  exact eq_retV2 (e := (.return_, 1, 0, 0, 0)) (by with_unfolding_all rfl) rfl (by with_unfolding_all rfl)
set_option maxRecDepth 20000 in
theorem b_293_0 {d nS : Nat} {M : am_M} {Q : Option Value → am_H → Prop} : am_Wp (d + 1) 293 0 [.ref 205, .retAddr 0] [] (hp nS M) Q = am_Wp d 291 0 [.ref 205, .int (M 214 0)] [] (hp nS M) (fun v h1 => am_Wp (d + 1) 293 15 [.ref 205, .retAddr 0] (am_ans v [.int 0, .ref 214]) h1 Q) := by
  refine (eq_run 8 (q := (12, [.ref 205, .retAddr 0], [.int (M 214 0), .ref 205, .int 0, .ref 214], hp nS M)) (by with_unfolding_all rfl)).trans ?_
  exact eq_call2 (e := (.invokevirtual 473, 3, 0, 291, 360)) (as := [.ref 205, .int (M 214 0)]) (r := [.int 0, .ref 214]) (n := 2) (m := 2) (by with_unfolding_all rfl) rfl (by decide) (by with_unfolding_all rfl) (by decide) (by with_unfolding_all rfl) ⟨fun _ => am_rec_ok (c := 14) (by with_unfolding_all rfl) (by decide +kernel), fun z => by simp at z⟩
set_option maxRecDepth 20000 in
theorem b_293_15 {d nS : Nat} {s1 s2 : Int32} {M : am_M} {Q : Option Value → am_H → Prop} (h1 : vp_in s1 2) : am_Wp d 293 15 [.ref 205, .retAddr 0] [.int s2, .int s1, .ref 214] (hp nS M) Q = am_Wp d 293 18 [.ref 205, .int 0] [] (hp nS (am_up M 214 s1.toNatClampNeg s2)) Q := by
  refine (eq_ast (e := (.iastore, 1, 0, 0, 0)) (by with_unfolding_all rfl) rfl (n := 2) (by with_unfolding_all rfl) (by decide) h1).trans ?_
  exact eq_run 2 (q := (18, [.ref 205, .int 0], [], hp nS (am_up M 214 s1.toNatClampNeg s2))) (by with_unfolding_all rfl)
set_option maxRecDepth 20000 in
theorem b_293_18 {d nS : Nat} {x1 : Int32} {M : am_M} {Q : Option Value → am_H → Prop} : am_Wp d 293 18 [.ref 205, .int x1] [] (hp nS M) Q = if 16 ≤ x1 then am_Wp d 293 94 [.ref 205, .int x1] [] (hp nS M) Q else am_Wp d 293 24 [.ref 205, .int x1] [] (hp nS M) Q := by
  refine (eq_run 2 (q := (21, [.ref 205, .int x1], [.int 16, .int x1], hp nS M)) (by with_unfolding_all rfl)).trans ?_
  exact eq_cmp_ge (by with_unfolding_all rfl)
set_option maxRecDepth 20000 in
theorem b_293_24 {d nS : Nat} {x1 : Int32} {M : am_M} {Q : Option Value → am_H → Prop} (h1 : vp_in x1 48) : am_Wp (d + 1) 293 24 [.ref 205, .int x1] [] (hp nS M) Q = am_Wp d 291 0 [.ref 205, .int (M 215 x1.toNatClampNeg)] [] (hp nS M) (fun v h1 => am_Wp (d + 1) 293 39 [.ref 205, .int x1] (am_ans v [.int x1, .ref 215]) h1 Q) := by
  refine (eq_run 7 (q := (35, [.ref 205, .int x1], [.int x1, .ref 215, .ref 205, .int x1, .ref 215], hp nS M)) (by with_unfolding_all rfl)).trans ?_
  refine (eq_ald (e := (.iaload, 1, 0, 0, 0)) (by with_unfolding_all rfl) rfl (n := 48) (by with_unfolding_all rfl) h1).trans ?_
  exact eq_call2 (e := (.invokevirtual 473, 3, 0, 291, 360)) (as := [.ref 205, .int (M 215 x1.toNatClampNeg)]) (r := [.int x1, .ref 215]) (n := 2) (m := 2) (by with_unfolding_all rfl) rfl (by decide) (by with_unfolding_all rfl) (by decide) (by with_unfolding_all rfl) ⟨fun _ => am_rec_ok (c := 14) (by with_unfolding_all rfl) (by decide +kernel), fun z => by simp at z⟩
set_option maxRecDepth 20000 in
theorem b_293_39 {d nS : Nat} {x1 s1 s2 : Int32} {M : am_M} {Q : Option Value → am_H → Prop} (h1 : vp_in s1 48) (h2 : vp_in x1 48) : am_Wp (d + 1) 293 39 [.ref 205, .int x1] [.int s2, .int s1, .ref 215] (hp nS M) Q = am_Wp d 291 0 [.ref 205, .int ((am_up M 215 s1.toNatClampNeg s2) 216 x1.toNatClampNeg)] [] (hp nS (am_up M 215 s1.toNatClampNeg s2)) (fun v h1 => am_Wp (d + 1) 293 55 [.ref 205, .int x1] (am_ans v [.int x1, .ref 216]) h1 Q) := by
  refine (eq_ast (e := (.iastore, 1, 0, 0, 0)) (by with_unfolding_all rfl) rfl (n := 48) (by with_unfolding_all rfl) (by decide) h1).trans ?_
  refine (eq_run 7 (q := (51, [.ref 205, .int x1], [.int x1, .ref 216, .ref 205, .int x1, .ref 216], hp nS (am_up M 215 s1.toNatClampNeg s2))) (by with_unfolding_all rfl)).trans ?_
  refine (eq_ald (e := (.iaload, 1, 0, 0, 0)) (by with_unfolding_all rfl) rfl (n := 48) (by with_unfolding_all rfl) h2).trans ?_
  exact eq_call2 (e := (.invokevirtual 473, 3, 0, 291, 360)) (as := [.ref 205, .int ((am_up M 215 s1.toNatClampNeg s2) 216 x1.toNatClampNeg)]) (r := [.int x1, .ref 216]) (n := 2) (m := 2) (by with_unfolding_all rfl) rfl (by decide) (by with_unfolding_all rfl) (by decide) (by with_unfolding_all rfl) ⟨fun _ => am_rec_ok (c := 14) (by with_unfolding_all rfl) (by decide +kernel), fun z => by simp at z⟩
set_option maxRecDepth 20000 in
theorem b_293_55 {d nS : Nat} {x1 s1 s2 : Int32} {M : am_M} {Q : Option Value → am_H → Prop} (h1 : vp_in s1 48) (h2 : vp_in x1 48) : am_Wp (d + 1) 293 55 [.ref 205, .int x1] [.int s2, .int s1, .ref 216] (hp nS M) Q = am_Wp d 291 0 [.ref 205, .int ((am_up M 216 s1.toNatClampNeg s2) 217 x1.toNatClampNeg)] [] (hp nS (am_up M 216 s1.toNatClampNeg s2)) (fun v h1 => am_Wp (d + 1) 293 71 [.ref 205, .int x1] (am_ans v [.int x1, .ref 217]) h1 Q) := by
  refine (eq_ast (e := (.iastore, 1, 0, 0, 0)) (by with_unfolding_all rfl) rfl (n := 48) (by with_unfolding_all rfl) (by decide) h1).trans ?_
  refine (eq_run 7 (q := (67, [.ref 205, .int x1], [.int x1, .ref 217, .ref 205, .int x1, .ref 217], hp nS (am_up M 216 s1.toNatClampNeg s2))) (by with_unfolding_all rfl)).trans ?_
  refine (eq_ald (e := (.iaload, 1, 0, 0, 0)) (by with_unfolding_all rfl) rfl (n := 48) (by with_unfolding_all rfl) h2).trans ?_
  exact eq_call2 (e := (.invokevirtual 473, 3, 0, 291, 360)) (as := [.ref 205, .int ((am_up M 216 s1.toNatClampNeg s2) 217 x1.toNatClampNeg)]) (r := [.int x1, .ref 217]) (n := 2) (m := 2) (by with_unfolding_all rfl) rfl (by decide) (by with_unfolding_all rfl) (by decide) (by with_unfolding_all rfl) ⟨fun _ => am_rec_ok (c := 14) (by with_unfolding_all rfl) (by decide +kernel), fun z => by simp at z⟩
set_option maxRecDepth 20000 in
theorem b_293_71 {d nS : Nat} {x1 s1 s2 : Int32} {M : am_M} {Q : Option Value → am_H → Prop} (h1 : vp_in s1 48) (h2 : vp_in x1 48) : am_Wp (d + 1) 293 71 [.ref 205, .int x1] [.int s2, .int s1, .ref 217] (hp nS M) Q = am_Wp d 291 0 [.ref 205, .int ((am_up M 217 s1.toNatClampNeg s2) 218 x1.toNatClampNeg)] [] (hp nS (am_up M 217 s1.toNatClampNeg s2)) (fun v h1 => am_Wp (d + 1) 293 87 [.ref 205, .int x1] (am_ans v [.int x1, .ref 218]) h1 Q) := by
  refine (eq_ast (e := (.iastore, 1, 0, 0, 0)) (by with_unfolding_all rfl) rfl (n := 48) (by with_unfolding_all rfl) (by decide) h1).trans ?_
  refine (eq_run 7 (q := (83, [.ref 205, .int x1], [.int x1, .ref 218, .ref 205, .int x1, .ref 218], hp nS (am_up M 217 s1.toNatClampNeg s2))) (by with_unfolding_all rfl)).trans ?_
  refine (eq_ald (e := (.iaload, 1, 0, 0, 0)) (by with_unfolding_all rfl) rfl (n := 48) (by with_unfolding_all rfl) h2).trans ?_
  exact eq_call2 (e := (.invokevirtual 473, 3, 0, 291, 360)) (as := [.ref 205, .int ((am_up M 217 s1.toNatClampNeg s2) 218 x1.toNatClampNeg)]) (r := [.int x1, .ref 218]) (n := 2) (m := 2) (by with_unfolding_all rfl) rfl (by decide) (by with_unfolding_all rfl) (by decide) (by with_unfolding_all rfl) ⟨fun _ => am_rec_ok (c := 14) (by with_unfolding_all rfl) (by decide +kernel), fun z => by simp at z⟩
set_option maxRecDepth 20000 in
theorem b_293_87 {d nS : Nat} {x1 s1 s2 : Int32} {M : am_M} {Q : Option Value → am_H → Prop} (h1 : vp_in s1 48) : am_Wp d 293 87 [.ref 205, .int x1] [.int s2, .int s1, .ref 218] (hp nS M) Q = am_Wp d 293 18 [.ref 205, .int (x1 + 1)] [] (hp nS (am_up M 218 s1.toNatClampNeg s2)) Q := by
  refine (eq_ast (e := (.iastore, 1, 0, 0, 0)) (by with_unfolding_all rfl) rfl (n := 48) (by with_unfolding_all rfl) (by decide) h1).trans ?_
  exact eq_run 2 (q := (18, [.ref 205, .int (x1 + 1)], [], hp nS (am_up M 218 s1.toNatClampNeg s2))) (by with_unfolding_all rfl)
set_option maxRecDepth 20000 in
theorem b_293_94 {d nS : Nat} {x1 : Int32} {M : am_M} {Q : Option Value → am_H → Prop} : am_Wp d 293 94 [.ref 205, .int x1] [] (hp nS M) Q = am_Wp d 293 96 [.ref 205, .int 0] [] (hp nS M) Q := by
  exact eq_run 2 (q := (96, [.ref 205, .int 0], [], hp nS M)) (by with_unfolding_all rfl)
set_option maxRecDepth 20000 in
theorem b_293_96 {d nS : Nat} {x1 : Int32} {M : am_M} {Q : Option Value → am_H → Prop} : am_Wp d 293 96 [.ref 205, .int x1] [] (hp nS M) Q = if 400 ≤ x1 then am_Wp d 293 141 [.ref 205, .int x1] [] (hp nS M) Q else am_Wp d 293 103 [.ref 205, .int x1] [] (hp nS M) Q := by
  refine (eq_run 2 (q := (100, [.ref 205, .int x1], [.int 400, .int x1], hp nS M)) (by with_unfolding_all rfl)).trans ?_
  exact eq_cmp_ge (by with_unfolding_all rfl)
set_option maxRecDepth 20000 in
theorem b_293_103 {d nS : Nat} {x1 : Int32} {M : am_M} {Q : Option Value → am_H → Prop} (h1 : vp_in x1 1200) : am_Wp (d + 1) 293 103 [.ref 205, .int x1] [] (hp nS M) Q = am_Wp d 291 0 [.ref 205, .int (M 219 x1.toNatClampNeg)] [] (hp nS M) (fun v h1 => am_Wp (d + 1) 293 118 [.ref 205, .int x1] (am_ans v [.int x1, .ref 219]) h1 Q) := by
  refine (eq_run 7 (q := (114, [.ref 205, .int x1], [.int x1, .ref 219, .ref 205, .int x1, .ref 219], hp nS M)) (by with_unfolding_all rfl)).trans ?_
  refine (eq_ald (e := (.iaload, 1, 0, 0, 0)) (by with_unfolding_all rfl) rfl (n := 1200) (by with_unfolding_all rfl) h1).trans ?_
  exact eq_call2 (e := (.invokevirtual 473, 3, 0, 291, 360)) (as := [.ref 205, .int (M 219 x1.toNatClampNeg)]) (r := [.int x1, .ref 219]) (n := 2) (m := 2) (by with_unfolding_all rfl) rfl (by decide) (by with_unfolding_all rfl) (by decide) (by with_unfolding_all rfl) ⟨fun _ => am_rec_ok (c := 14) (by with_unfolding_all rfl) (by decide +kernel), fun z => by simp at z⟩
set_option maxRecDepth 20000 in
theorem b_293_118 {d nS : Nat} {x1 s1 s2 : Int32} {M : am_M} {Q : Option Value → am_H → Prop} (h1 : vp_in s1 1200) (h2 : vp_in x1 1200) : am_Wp (d + 1) 293 118 [.ref 205, .int x1] [.int s2, .int s1, .ref 219] (hp nS M) Q = am_Wp d 291 0 [.ref 205, .int ((am_up M 219 s1.toNatClampNeg s2) 220 x1.toNatClampNeg)] [] (hp nS (am_up M 219 s1.toNatClampNeg s2)) (fun v h1 => am_Wp (d + 1) 293 134 [.ref 205, .int x1] (am_ans v [.int x1, .ref 220]) h1 Q) := by
  refine (eq_ast (e := (.iastore, 1, 0, 0, 0)) (by with_unfolding_all rfl) rfl (n := 1200) (by with_unfolding_all rfl) (by decide) h1).trans ?_
  refine (eq_run 7 (q := (130, [.ref 205, .int x1], [.int x1, .ref 220, .ref 205, .int x1, .ref 220], hp nS (am_up M 219 s1.toNatClampNeg s2))) (by with_unfolding_all rfl)).trans ?_
  refine (eq_ald (e := (.iaload, 1, 0, 0, 0)) (by with_unfolding_all rfl) rfl (n := 1200) (by with_unfolding_all rfl) h2).trans ?_
  exact eq_call2 (e := (.invokevirtual 473, 3, 0, 291, 360)) (as := [.ref 205, .int ((am_up M 219 s1.toNatClampNeg s2) 220 x1.toNatClampNeg)]) (r := [.int x1, .ref 220]) (n := 2) (m := 2) (by with_unfolding_all rfl) rfl (by decide) (by with_unfolding_all rfl) (by decide) (by with_unfolding_all rfl) ⟨fun _ => am_rec_ok (c := 14) (by with_unfolding_all rfl) (by decide +kernel), fun z => by simp at z⟩
set_option maxRecDepth 20000 in
theorem b_293_134 {d nS : Nat} {x1 s1 s2 : Int32} {M : am_M} {Q : Option Value → am_H → Prop} (h1 : vp_in s1 1200) : am_Wp d 293 134 [.ref 205, .int x1] [.int s2, .int s1, .ref 220] (hp nS M) Q = am_Wp d 293 96 [.ref 205, .int (x1 + 1)] [] (hp nS (am_up M 220 s1.toNatClampNeg s2)) Q := by
  refine (eq_ast (e := (.iastore, 1, 0, 0, 0)) (by with_unfolding_all rfl) rfl (n := 1200) (by with_unfolding_all rfl) (by decide) h1).trans ?_
  exact eq_run 2 (q := (96, [.ref 205, .int (x1 + 1)], [], hp nS (am_up M 220 s1.toNatClampNeg s2))) (by with_unfolding_all rfl)
set_option maxRecDepth 20000 in
theorem b_293_141 {d nS : Nat} {x1 : Int32} {M : am_M} {Q : Option Value → am_H → Prop} : am_Wp d 293 141 [.ref 205, .int x1] [] (hp nS M) Q = Q none (hp nS M) := by
  exact eq_retV2 (e := (.return_, 1, 0, 0, 0)) (by with_unfolding_all rfl) rfl (by with_unfolding_all rfl)
set_option maxRecDepth 20000 in
theorem b_43_20 {d nS : Nat} {x1 s0 : Int32} {zx2 : Value} {M : am_M} {Q : Option Value → am_H → Prop} : am_Wp d 43 20 [.ref 187, .int x1, zx2] [.int s0] (hp nS M) Q = if s0 = 0 then am_Wp d 43 58 [.ref 187, .int x1, zx2] [] (hp nS M) Q else am_Wp d 43 23 [.ref 187, .int x1, zx2] [] (hp nS M) Q := by
  exact eq_if_eq (by with_unfolding_all rfl)
set_option maxRecDepth 20000 in
theorem b_43_23 {d nS : Nat} {x1 : Int32} {zx2 : Value} {M : am_M} {Q : Option Value → am_H → Prop} : am_Wp (d + 1) 43 23 [.ref 187, .int x1, zx2] [] (hp nS M) Q = am_Wp d 44 0 [.ref 187, .int x1, .retAddr 0, .retAddr 0] [] (hp nS M) (fun v h1 => am_Wp (d + 1) 43 28 [.ref 187, .int x1, zx2] (am_ans v []) h1 Q) := by
  refine (eq_run 2 (q := (25, [.ref 187, .int x1, zx2], [.int x1, .ref 187], hp nS M)) (by with_unfolding_all rfl)).trans ?_
  exact eq_call2 (e := (.invokevirtual 94, 3, 0, 44, 114)) (as := [.ref 187, .int x1]) (r := []) (n := 2) (m := 4) (by with_unfolding_all rfl) rfl (by decide) (by with_unfolding_all rfl) (by decide) (by with_unfolding_all rfl) ⟨fun _ => am_rec_ok (c := 8) (by with_unfolding_all rfl) (by decide +kernel), fun z => by simp at z⟩
set_option maxRecDepth 20000 in
theorem b_43_28 {d nS : Nat} {x1 s0 : Int32} {zx2 : Value} {M : am_M} {Q : Option Value → am_H → Prop} : am_Wp (d + 1) 43 28 [.ref 187, .int x1, zx2] [.int s0] (hp nS M) Q = am_Wp d 47 0 [.ref 187, .int x1, .int s0, .retAddr 0] [] (hp nS M) (fun v h1 => am_Wp (d + 1) 43 36 [.ref 187, .int x1, .int s0] (am_ans v [.ref 187]) h1 Q) := by
  refine (eq_run 5 (q := (33, [.ref 187, .int x1, .int s0], [.int s0, .int x1, .ref 187, .ref 187], hp nS M)) (by with_unfolding_all rfl)).trans ?_
  exact eq_call2 (e := (.invokevirtual 98, 3, 0, 47, 115)) (as := [.ref 187, .int x1, .int s0]) (r := [.ref 187]) (n := 3) (m := 4) (by with_unfolding_all rfl) rfl (by decide) (by with_unfolding_all rfl) (by decide) (by with_unfolding_all rfl) ⟨fun _ => am_rec_ok (c := 8) (by with_unfolding_all rfl) (by decide +kernel), fun z => by simp at z⟩
set_option maxRecDepth 20000 in
theorem b_43_36 {d nS : Nat} {x1 x2 s1 : Int32} {M : am_M} {Q : Option Value → am_H → Prop} : am_Wp (d + 1) 43 36 [.ref 187, .int x1, .int x2] [.int s1, .ref 187] (hp nS M) Q = am_Wp d 45 0 [.ref 187, .int x1] [] (hp nS M) (fun v h1 => am_Wp (d + 1) 43 42 [.ref 187, .int x1, .int x2] (am_ans v [.int x1, .int s1, .ref 187]) h1 Q) := by
  refine (eq_run 3 (q := (39, [.ref 187, .int x1, .int x2], [.int x1, .ref 187, .int x1, .int s1, .ref 187], hp nS M)) (by with_unfolding_all rfl)).trans ?_
  exact eq_call2 (e := (.invokevirtual 102, 3, 0, 45, 116)) (as := [.ref 187, .int x1]) (r := [.int x1, .int s1, .ref 187]) (n := 2) (m := 2) (by with_unfolding_all rfl) rfl (by decide) (by with_unfolding_all rfl) (by decide) (by with_unfolding_all rfl) ⟨fun _ => am_rec_ok (c := 8) (by with_unfolding_all rfl) (by decide +kernel), fun z => by simp at z⟩
set_option maxRecDepth 20000 in
theorem b_43_42 {d nS : Nat} {x1 x2 s1 s2 s3 : Int32} {M : am_M} {Q : Option Value → am_H → Prop} : am_Wp d 43 42 [.ref 187, .int x1, .int x2] [.int s3, .int s2, .int s1, .ref 187] (hp nS M) Q = if s3 = 0 then am_Wp d 43 54 [.ref 187, .int x1, .int x2] [.int s2, .int s1, .ref 187] (hp nS M) Q else am_Wp d 43 45 [.ref 187, .int x1, .int x2] [.int s2, .int s1, .ref 187] (hp nS M) Q := by
  exact eq_if_eq (by with_unfolding_all rfl)
set_option maxRecDepth 20000 in
theorem b_43_51 {d nS : Nat} {x1 x2 s1 s2 s3 : Int32} {M : am_M} {Q : Option Value → am_H → Prop} : am_Wp d 43 51 [.ref 187, .int x1, .int x2] [.int s3, .int s2, .int s1, .ref 187] (hp nS M) Q = am_Wp d 43 55 [.ref 187, .int x1, .int x2] [.int s3, .int s2, .int s1, .ref 187] (hp nS M) Q := by
  exact eq_run 1 (q := (55, [.ref 187, .int x1, .int x2], [.int s3, .int s2, .int s1, .ref 187], hp nS M)) (by with_unfolding_all rfl)
set_option maxRecDepth 20000 in
theorem b_43_54 {d nS : Nat} {x1 x2 s1 s2 : Int32} {M : am_M} {Q : Option Value → am_H → Prop} : am_Wp d 43 54 [.ref 187, .int x1, .int x2] [.int s2, .int s1, .ref 187] (hp nS M) Q = am_Wp d 43 55 [.ref 187, .int x1, .int x2] [.int 0, .int s2, .int s1, .ref 187] (hp nS M) Q := by
  exact eq_run 1 (q := (55, [.ref 187, .int x1, .int x2], [.int 0, .int s2, .int s1, .ref 187], hp nS M)) (by with_unfolding_all rfl)
set_option maxRecDepth 20000 in
theorem b_43_55 {d nS : Nat} {x1 x2 s1 s2 s3 : Int32} {M : am_M} {Q : Option Value → am_H → Prop} : am_Wp (d + 1) 43 55 [.ref 187, .int x1, .int x2] [.int s3, .int s2, .int s1, .ref 187] (hp nS M) Q = am_Wp d 49 0 [.ref 187, .int s1, .int s2, .int s3] [] (hp nS M) (fun v h1 => am_Wp (d + 1) 43 58 [.ref 187, .int x1, .int x2] (am_ans v []) h1 Q) := by
  exact eq_call2 (e := (.invokevirtual 108, 3, 0, 49, 118)) (as := [.ref 187, .int s1, .int s2, .int s3]) (r := []) (n := 4) (m := 4) (by with_unfolding_all rfl) rfl (by decide) (by with_unfolding_all rfl) (by decide) (by with_unfolding_all rfl) ⟨fun _ => am_rec_ok (c := 8) (by with_unfolding_all rfl) (by decide +kernel), fun z => by simp at z⟩
set_option maxRecDepth 20000 in
theorem b_43_58 {d nS : Nat} {x1 : Int32} {zx2 : Value} {M : am_M} {Q : Option Value → am_H → Prop} : am_Wp d 43 58 [.ref 187, .int x1, zx2] [] (hp nS M) Q = am_Wp d 43 7 [.ref 187, .int (x1 + 1), zx2] [] (hp nS M) Q := by
  exact eq_run 2 (q := (7, [.ref 187, .int (x1 + 1), zx2], [], hp nS M)) (by with_unfolding_all rfl)
set_option maxRecDepth 20000 in
theorem b_43_64 {d nS : Nat} {x1 : Int32} {zx2 : Value} {M : am_M} {Q : Option Value → am_H → Prop} : am_Wp (d + 1) 43 64 [.ref 187, .int x1, zx2] [] (hp nS M) Q = am_Wp d 49 0 [.ref 187, .int 37, .int (M 187 0), .int 0] [] (hp nS M) (fun v h1 => am_Wp (d + 1) 43 75 [.ref 187, .int x1, zx2] (am_ans v []) h1 Q) := by
  refine (eq_run 5 (q := (72, [.ref 187, .int x1, zx2], [.int 0, .int (M 187 0), .int 37, .ref 187], hp nS M)) (by with_unfolding_all rfl)).trans ?_
  exact eq_call2 (e := (.invokevirtual 108, 3, 0, 49, 118)) (as := [.ref 187, .int 37, .int (M 187 0), .int 0]) (r := []) (n := 4) (m := 4) (by with_unfolding_all rfl) rfl (by decide) (by with_unfolding_all rfl) (by decide) (by with_unfolding_all rfl) ⟨fun _ => am_rec_ok (c := 8) (by with_unfolding_all rfl) (by decide +kernel), fun z => by simp at z⟩
set_option maxRecDepth 20000 in
theorem b_43_75 {d nS : Nat} {x1 : Int32} {zx2 : Value} {M : am_M} {Q : Option Value → am_H → Prop} : am_Wp d 43 75 [.ref 187, .int x1, zx2] [] (hp nS M) Q = Q none (hp nS M) := by
  exact eq_retV2 (e := (.return_, 1, 0, 0, 0)) (by with_unfolding_all rfl) rfl (by with_unfolding_all rfl)
set_option maxRecDepth 20000 in
theorem b_49_50 {d nS : Nat} {x1 x2 x3 : Int32} {M : am_M} {Q : Option Value → am_H → Prop} : am_Wp d 49 50 [.ref 187, .int x1, .int x2, .int x3] [] (hp nS M) Q = Q none (hp nS M) := by
  exact eq_retV2 (e := (.return_, 1, 0, 0, 0)) (by with_unfolding_all rfl) rfl (by with_unfolding_all rfl)
set_option maxRecDepth 20000 in
theorem b_88_66 {d nS : Nat} {x1 x2 x3 x4 x5 s0 : Int32} {M : am_M} {Q : Option Value → am_H → Prop} : am_Wp d 88 66 [.ref 202, .int x1, .int x2, .int x3, .int x4, .int x5] [.int s0] (hp nS M) Q = am_Wp d 88 71 [.ref 202, .int x1, .int x2, .int x3, .int x4, .int x5] [.int 2, .int s0] (hp nS M) Q := by
  exact eq_run 2 (q := (71, [.ref 202, .int x1, .int x2, .int x3, .int x4, .int x5], [.int 2, .int s0], hp nS M)) (by with_unfolding_all rfl)
set_option maxRecDepth 20000 in
theorem b_88_70 {d nS : Nat} {x1 x2 x3 x4 x5 s0 : Int32} {M : am_M} {Q : Option Value → am_H → Prop} : am_Wp d 88 70 [.ref 202, .int x1, .int x2, .int x3, .int x4, .int x5] [.int s0] (hp nS M) Q = am_Wp d 88 71 [.ref 202, .int x1, .int x2, .int x3, .int x4, .int x5] [.int 1, .int s0] (hp nS M) Q := by
  exact eq_run 1 (q := (71, [.ref 202, .int x1, .int x2, .int x3, .int x4, .int x5], [.int 1, .int s0], hp nS M)) (by with_unfolding_all rfl)
set_option maxRecDepth 20000 in
theorem b_88_71 {d nS : Nat} {x1 x2 x3 x4 x5 s0 s1 : Int32} {M : am_M} {Q : Option Value → am_H → Prop} : am_Wp d 88 71 [.ref 202, .int x1, .int x2, .int x3, .int x4, .int x5] [.int s1, .int s0] (hp nS M) Q = am_Wp d 88 18 [.ref 202, .int x1, .int x2, .int x3, .int (s0 + s1), .int x5] [] (hp nS M) Q := by
  exact eq_run 3 (q := (18, [.ref 202, .int x1, .int x2, .int x3, .int (s0 + s1), .int x5], [], hp nS M)) (by with_unfolding_all rfl)
set_option maxRecDepth 20000 in
theorem b_88_77 {d nS : Nat} {x1 x2 x3 x4 : Int32} {zx5 : Value} {M : am_M} {Q : Option Value → am_H → Prop} (h1 : vp_in x1 61) : am_Wp d 88 77 [.ref 202, .int x1, .int x2, .int x3, .int x4, zx5] [] (hp nS M) Q = Q (some (.int (M 203 x1.toNatClampNeg))) (hp nS M) := by
  refine (eq_run 3 (q := (82, [.ref 202, .int x1, .int x2, .int x3, .int x4, zx5], [.int x1, .ref 203], hp nS M)) (by with_unfolding_all rfl)).trans ?_
  refine (eq_ald (e := (.iaload, 1, 0, 0, 0)) (by with_unfolding_all rfl) rfl (n := 61) (by with_unfolding_all rfl) h1).trans ?_
  exact eq_retI2 (e := (.ireturn, 1, 0, 0, 0)) (t := .int) (by with_unfolding_all rfl) rfl (by with_unfolding_all rfl) rfl
set_option maxRecDepth 20000 in
theorem b_312_0 {d nS : Nat} {x1 : Int32} {M : am_M} {Q : Option Value → am_H → Prop} (h1 : vp_in x1 400) : am_Wp d 312 0 [.ref 187, .int x1] [] (hp nS M) Q = if (M 198 x1.toNatClampNeg) = 32 then am_Wp d 312 22 [.ref 187, .int x1] [] (hp nS M) Q else am_Wp d 312 11 [.ref 187, .int x1] [] (hp nS M) Q := by
  refine (eq_run 3 (q := (5, [.ref 187, .int x1], [.int x1, .ref 198], hp nS M)) (by with_unfolding_all rfl)).trans ?_
  refine (eq_ald (e := (.iaload, 1, 0, 0, 0)) (by with_unfolding_all rfl) rfl (n := 400) (by with_unfolding_all rfl) h1).trans ?_
  refine (eq_run 1 (q := (8, [.ref 187, .int x1], [.int 32, .int (M 198 x1.toNatClampNeg)], hp nS M)) (by with_unfolding_all rfl)).trans ?_
  exact eq_cmp_eq (by with_unfolding_all rfl)
set_option maxRecDepth 20000 in
theorem b_312_11 {d nS : Nat} {x1 : Int32} {M : am_M} {Q : Option Value → am_H → Prop} (h1 : vp_in x1 400) : am_Wp d 312 11 [.ref 187, .int x1] [] (hp nS M) Q = if ¬ (M 198 x1.toNatClampNeg) = 10 then am_Wp d 312 24 [.ref 187, .int x1] [] (hp nS M) Q else am_Wp d 312 22 [.ref 187, .int x1] [] (hp nS M) Q := by
  refine (eq_run 3 (q := (16, [.ref 187, .int x1], [.int x1, .ref 198], hp nS M)) (by with_unfolding_all rfl)).trans ?_
  refine (eq_ald (e := (.iaload, 1, 0, 0, 0)) (by with_unfolding_all rfl) rfl (n := 400) (by with_unfolding_all rfl) h1).trans ?_
  refine (eq_run 1 (q := (19, [.ref 187, .int x1], [.int 10, .int (M 198 x1.toNatClampNeg)], hp nS M)) (by with_unfolding_all rfl)).trans ?_
  exact eq_cmp_ne (by with_unfolding_all rfl)
set_option maxRecDepth 20000 in
theorem b_312_22 {d nS : Nat} {x1 : Int32} {M : am_M} {Q : Option Value → am_H → Prop} : am_Wp d 312 22 [.ref 187, .int x1] [] (hp nS M) Q = Q (some (.int 0)) (hp nS M) := by
  refine (eq_run 1 (q := (23, [.ref 187, .int x1], [.int 0], hp nS M)) (by with_unfolding_all rfl)).trans ?_
  exact eq_retI2 (e := (.ireturn, 1, 0, 0, 0)) (t := .boolean) (by with_unfolding_all rfl) rfl (by with_unfolding_all rfl) rfl
set_option maxRecDepth 20000 in
theorem b_312_24 {d nS : Nat} {x1 : Int32} {M : am_M} {Q : Option Value → am_H → Prop} : am_Wp d 312 24 [.ref 187, .int x1] [] (hp nS M) Q = if ¬ x1 = 0 then am_Wp d 312 30 [.ref 187, .int x1] [] (hp nS M) Q else am_Wp d 312 28 [.ref 187, .int x1] [] (hp nS M) Q := by
  refine (eq_run 1 (q := (25, [.ref 187, .int x1], [.int x1], hp nS M)) (by with_unfolding_all rfl)).trans ?_
  exact eq_if_ne (by with_unfolding_all rfl)
set_option maxRecDepth 20000 in
theorem b_312_28 {d nS : Nat} {x1 : Int32} {M : am_M} {Q : Option Value → am_H → Prop} : am_Wp d 312 28 [.ref 187, .int x1] [] (hp nS M) Q = Q (some (.int 1)) (hp nS M) := by
  refine (eq_run 1 (q := (29, [.ref 187, .int x1], [.int 1], hp nS M)) (by with_unfolding_all rfl)).trans ?_
  exact eq_retI2 (e := (.ireturn, 1, 0, 0, 0)) (t := .boolean) (by with_unfolding_all rfl) rfl (by with_unfolding_all rfl) rfl
set_option maxRecDepth 20000 in
theorem b_312_30 {d nS : Nat} {x1 : Int32} {M : am_M} {Q : Option Value → am_H → Prop} : am_Wp (d + 1) 312 30 [.ref 187, .int x1] [] (hp nS M) Q = am_Wp d 45 0 [.ref 187, .int x1] [] (hp nS M) (fun v h1 => am_Wp (d + 1) 312 35 [.ref 187, .int x1] (am_ans v []) h1 Q) := by
  refine (eq_run 2 (q := (32, [.ref 187, .int x1], [.int x1, .ref 187], hp nS M)) (by with_unfolding_all rfl)).trans ?_
  exact eq_call2 (e := (.invokevirtual 102, 3, 0, 45, 116)) (as := [.ref 187, .int x1]) (r := []) (n := 2) (m := 2) (by with_unfolding_all rfl) rfl (by decide) (by with_unfolding_all rfl) (by decide) (by with_unfolding_all rfl) ⟨fun _ => am_rec_ok (c := 8) (by with_unfolding_all rfl) (by decide +kernel), fun z => by simp at z⟩
set_option maxRecDepth 20000 in
theorem b_312_35 {d nS : Nat} {x1 s0 : Int32} {M : am_M} {Q : Option Value → am_H → Prop} : am_Wp d 312 35 [.ref 187, .int x1] [.int s0] (hp nS M) Q = if s0 = 0 then am_Wp d 312 56 [.ref 187, .int x1] [] (hp nS M) Q else am_Wp d 312 38 [.ref 187, .int x1] [] (hp nS M) Q := by
  exact eq_if_eq (by with_unfolding_all rfl)
set_option maxRecDepth 20000 in
theorem b_312_38 {d nS : Nat} {x1 : Int32} {M : am_M} {Q : Option Value → am_H → Prop} : am_Wp (d + 1) 312 38 [.ref 187, .int x1] [] (hp nS M) Q = am_Wp d 45 0 [.ref 187, .int (x1 - 1)] [] (hp nS M) (fun v h1 => am_Wp (d + 1) 312 45 [.ref 187, .int x1] (am_ans v []) h1 Q) := by
  refine (eq_run 4 (q := (42, [.ref 187, .int x1], [.int (x1 - 1), .ref 187], hp nS M)) (by with_unfolding_all rfl)).trans ?_
  exact eq_call2 (e := (.invokevirtual 102, 3, 0, 45, 116)) (as := [.ref 187, .int (x1 - 1)]) (r := []) (n := 2) (m := 2) (by with_unfolding_all rfl) rfl (by decide) (by with_unfolding_all rfl) (by decide) (by with_unfolding_all rfl) ⟨fun _ => am_rec_ok (c := 8) (by with_unfolding_all rfl) (by decide +kernel), fun z => by simp at z⟩
set_option maxRecDepth 20000 in
theorem b_312_45 {d nS : Nat} {x1 s0 : Int32} {M : am_M} {Q : Option Value → am_H → Prop} : am_Wp d 312 45 [.ref 187, .int x1] [.int s0] (hp nS M) Q = if ¬ s0 = 0 then am_Wp d 312 52 [.ref 187, .int x1] [] (hp nS M) Q else am_Wp d 312 48 [.ref 187, .int x1] [] (hp nS M) Q := by
  exact eq_if_ne (by with_unfolding_all rfl)
set_option maxRecDepth 20000 in
theorem b_312_48 {d nS : Nat} {x1 : Int32} {M : am_M} {Q : Option Value → am_H → Prop} : am_Wp d 312 48 [.ref 187, .int x1] [] (hp nS M) Q = am_Wp d 312 79 [.ref 187, .int x1] [.int 1] (hp nS M) Q := by
  exact eq_run 2 (q := (79, [.ref 187, .int x1], [.int 1], hp nS M)) (by with_unfolding_all rfl)
set_option maxRecDepth 20000 in
theorem b_312_52 {d nS : Nat} {x1 : Int32} {M : am_M} {Q : Option Value → am_H → Prop} : am_Wp d 312 52 [.ref 187, .int x1] [] (hp nS M) Q = am_Wp d 312 79 [.ref 187, .int x1] [.int 0] (hp nS M) Q := by
  exact eq_run 2 (q := (79, [.ref 187, .int x1], [.int 0], hp nS M)) (by with_unfolding_all rfl)
set_option maxRecDepth 20000 in
theorem b_312_56 {d nS : Nat} {x1 : Int32} {M : am_M} {Q : Option Value → am_H → Prop} : am_Wp (d + 1) 312 56 [.ref 187, .int x1] [] (hp nS M) Q = am_Wp d 46 0 [.ref 187, .int x1] [] (hp nS M) (fun v h1 => am_Wp (d + 1) 312 61 [.ref 187, .int x1] (am_ans v []) h1 Q) := by
  refine (eq_run 2 (q := (58, [.ref 187, .int x1], [.int x1, .ref 187], hp nS M)) (by with_unfolding_all rfl)).trans ?_
  exact eq_call2 (e := (.invokevirtual 112, 3, 0, 46, 119)) (as := [.ref 187, .int x1]) (r := []) (n := 2) (m := 2) (by with_unfolding_all rfl) rfl (by decide) (by with_unfolding_all rfl) (by decide) (by with_unfolding_all rfl) ⟨fun _ => am_rec_ok (c := 8) (by with_unfolding_all rfl) (by decide +kernel), fun z => by simp at z⟩
set_option maxRecDepth 20000 in
theorem b_312_61 {d nS : Nat} {x1 s0 : Int32} {M : am_M} {Q : Option Value → am_H → Prop} : am_Wp d 312 61 [.ref 187, .int x1] [.int s0] (hp nS M) Q = if s0 = 0 then am_Wp d 312 74 [.ref 187, .int x1] [] (hp nS M) Q else am_Wp d 312 64 [.ref 187, .int x1] [] (hp nS M) Q := by
  exact eq_if_eq (by with_unfolding_all rfl)
set_option maxRecDepth 20000 in
theorem b_312_64 {d nS : Nat} {x1 : Int32} {M : am_M} {Q : Option Value → am_H → Prop} : am_Wp (d + 1) 312 64 [.ref 187, .int x1] [] (hp nS M) Q = am_Wp d 46 0 [.ref 187, .int (x1 - 1)] [] (hp nS M) (fun v h1 => am_Wp (d + 1) 312 71 [.ref 187, .int x1] (am_ans v []) h1 Q) := by
  refine (eq_run 4 (q := (68, [.ref 187, .int x1], [.int (x1 - 1), .ref 187], hp nS M)) (by with_unfolding_all rfl)).trans ?_
  exact eq_call2 (e := (.invokevirtual 112, 3, 0, 46, 119)) (as := [.ref 187, .int (x1 - 1)]) (r := []) (n := 2) (m := 2) (by with_unfolding_all rfl) rfl (by decide) (by with_unfolding_all rfl) (by decide) (by with_unfolding_all rfl) ⟨fun _ => am_rec_ok (c := 8) (by with_unfolding_all rfl) (by decide +kernel), fun z => by simp at z⟩
set_option maxRecDepth 20000 in
theorem b_312_71 {d nS : Nat} {x1 s0 : Int32} {M : am_M} {Q : Option Value → am_H → Prop} : am_Wp d 312 71 [.ref 187, .int x1] [.int s0] (hp nS M) Q = if ¬ s0 = 0 then am_Wp d 312 78 [.ref 187, .int x1] [] (hp nS M) Q else am_Wp d 312 74 [.ref 187, .int x1] [] (hp nS M) Q := by
  exact eq_if_ne (by with_unfolding_all rfl)
set_option maxRecDepth 20000 in
theorem b_312_74 {d nS : Nat} {x1 : Int32} {M : am_M} {Q : Option Value → am_H → Prop} : am_Wp d 312 74 [.ref 187, .int x1] [] (hp nS M) Q = am_Wp d 312 79 [.ref 187, .int x1] [.int 1] (hp nS M) Q := by
  exact eq_run 2 (q := (79, [.ref 187, .int x1], [.int 1], hp nS M)) (by with_unfolding_all rfl)
set_option maxRecDepth 20000 in
theorem b_312_78 {d nS : Nat} {x1 : Int32} {M : am_M} {Q : Option Value → am_H → Prop} : am_Wp d 312 78 [.ref 187, .int x1] [] (hp nS M) Q = am_Wp d 312 79 [.ref 187, .int x1] [.int 0] (hp nS M) Q := by
  exact eq_run 1 (q := (79, [.ref 187, .int x1], [.int 0], hp nS M)) (by with_unfolding_all rfl)
set_option maxRecDepth 20000 in
theorem b_312_79 {d nS : Nat} {x1 s0 : Int32} {M : am_M} {Q : Option Value → am_H → Prop} (h1 : am_rok .boolean s0 = true) : am_Wp d 312 79 [.ref 187, .int x1] [.int s0] (hp nS M) Q = Q (some (.int s0)) (hp nS M) := by
  exact eq_retI2 (e := (.ireturn, 1, 0, 0, 0)) (t := .boolean) (by with_unfolding_all rfl) rfl (by with_unfolding_all rfl) h1
