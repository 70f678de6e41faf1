-- LarkExchange$Reader isKeyword(III)Z (48, (187, None, None, None))
set_option maxRecDepth 20000 in
theorem b_48_0 {d nS : Nat} {x1 x2 x3 : Int32} {M : am_M} {Q : Option Value → am_H → Prop} : am_Wp d 48 0 [.ref 187, .int x1, .int x2, .int x3, .retAddr 0, .retAddr 0, .retAddr 0] [] (hp nS M) Q = if 7 ≤ (x3 - x2) then am_Wp d 48 33 [.ref 187, .int x1, .int x2, .int x3, .int (x3 - x2), .int (x1 * 7), .retAddr 0] [] (hp nS M) Q else am_Wp d 48 18 [.ref 187, .int x1, .int x2, .int x3, .int (x3 - x2), .int (x1 * 7), .retAddr 0] [] (hp nS M) Q := by
  refine (eq_run 10 (q := (15, [.ref 187, .int x1, .int x2, .int x3, .int (x3 - x2), .int (x1 * 7), .retAddr 0], [.int 7, .int (x3 - x2)], hp nS M)) (by with_unfolding_all rfl)).trans ?_
  exact eq_cmp_ge (by with_unfolding_all rfl)
set_option maxRecDepth 20000 in
theorem b_48_18 {d nS : Nat} {x1 x2 x3 x4 x5 : Int32} {M : am_M} {Q : Option Value → am_H → Prop} : am_Wp (d + 1) 48 18 [.ref 187, .int x1, .int x2, .int x3, .int x4, .int x5, .retAddr 0] [] (hp nS M) Q = am_Wp d 308 0 [.ref 6, .int (x5 + x4)] [] (hp nS M) (fun v h1 => am_Wp (d + 1) 48 28 [.ref 187, .int x1, .int x2, .int x3, .int x4, .int x5, .retAddr 0] (am_ans v []) h1 Q) := by
  refine (eq_run 4 (q := (25, [.ref 187, .int x1, .int x2, .int x3, .int x4, .int x5, .retAddr 0], [.int (x5 + x4), .ref 6], hp nS M)) (by with_unfolding_all rfl)).trans ?_
  exact eq_call2 (e := (.invokevirtual 128, 3, 0, 308, 122)) (as := [.ref 6, .int (x5 + x4)]) (r := []) (n := 2) (m := 2) (by with_unfolding_all rfl) rfl (by decide) (by with_unfolding_all rfl) (by decide) (by with_unfolding_all rfl) ⟨fun _ => am_rec_ok (c := 15) (by with_unfolding_all rfl) (by decide +kernel), fun z => by simp at z⟩
set_option maxRecDepth 20000 in
theorem b_48_28 {d nS : Nat} {x1 x2 x3 x4 x5 s0 : Int32} {M : am_M} {Q : Option Value → am_H → Prop} : am_Wp d 48 28 [.ref 187, .int x1, .int x2, .int x3, .int x4, .int x5, .retAddr 0] [.int s0] (hp nS M) Q = if s0 = 32 then am_Wp d 48 35 [.ref 187, .int x1, .int x2, .int x3, .int x4, .int x5, .retAddr 0] [] (hp nS M) Q else am_Wp d 48 33 [.ref 187, .int x1, .int x2, .int x3, .int x4, .int x5, .retAddr 0] [] (hp nS M) Q := by
  refine (eq_run 1 (q := (30, [.ref 187, .int x1, .int x2, .int x3, .int x4, .int x5, .retAddr 0], [.int 32, .int s0], hp nS M)) (by with_unfolding_all rfl)).trans ?_
  exact eq_cmp_eq (by with_unfolding_all rfl)
set_option maxRecDepth 20000 in
theorem b_48_33 {d nS : Nat} {x1 x2 x3 x4 x5 : Int32} {M : am_M} {Q : Option Value → am_H → Prop} : am_Wp d 48 33 [.ref 187, .int x1, .int x2, .int x3, .int x4, .int x5, .retAddr 0] [] (hp nS M) Q = Q (some (.int 0)) (hp nS M) := by
  refine (eq_run 1 (q := (34, [.ref 187, .int x1, .int x2, .int x3, .int x4, .int x5, .retAddr 0], [.int 0], hp nS M)) (by with_unfolding_all rfl)).trans ?_
  exact eq_retI2 (e := (.ireturn, 1, 0, 0, 0)) (t := .boolean) (by with_unfolding_all rfl) rfl (by with_unfolding_all rfl) rfl
set_option maxRecDepth 20000 in
theorem b_48_35 {d nS : Nat} {x1 x2 x3 x4 x5 : Int32} {M : am_M} {Q : Option Value → am_H → Prop} : am_Wp d 48 35 [.ref 187, .int x1, .int x2, .int x3, .int x4, .int x5, .retAddr 0] [] (hp nS M) Q = am_Wp d 48 38 [.ref 187, .int x1, .int x2, .int x3, .int x4, .int x5, .int 0] [] (hp nS M) Q := by
  exact eq_run 2 (q := (38, [.ref 187, .int x1, .int x2, .int x3, .int x4, .int x5, .int 0], [], hp nS M)) (by with_unfolding_all rfl)
set_option maxRecDepth 20000 in
theorem b_48_38 {d nS : Nat} {x1 x2 x3 x4 x5 x6 : Int32} {M : am_M} {Q : Option Value → am_H → Prop} : am_Wp d 48 38 [.ref 187, .int x1, .int x2, .int x3, .int x4, .int x5, .int x6] [] (hp nS M) Q = if x4 ≤ x6 then am_Wp d 48 75 [.ref 187, .int x1, .int x2, .int x3, .int x4, .int x5, .int x6] [] (hp nS M) Q else am_Wp d 48 45 [.ref 187, .int x1, .int x2, .int x3, .int x4, .int x5, .int x6] [] (hp nS M) Q := by
  refine (eq_run 2 (q := (42, [.ref 187, .int x1, .int x2, .int x3, .int x4, .int x5, .int x6], [.int x4, .int x6], hp nS M)) (by with_unfolding_all rfl)).trans ?_
  exact eq_cmp_ge (by with_unfolding_all rfl)
set_option maxRecDepth 20000 in
theorem b_48_45 {d nS : Nat} {x1 x2 x3 x4 x5 x6 : Int32} {M : am_M} {Q : Option Value → am_H → Prop} : am_Wp (d + 1) 48 45 [.ref 187, .int x1, .int x2, .int x3, .int x4, .int x5, .int x6] [] (hp nS M) Q = am_Wp d 308 0 [.ref 6, .int (x5 + x6)] [] (hp nS M) (fun v h1 => am_Wp (d + 1) 48 55 [.ref 187, .int x1, .int x2, .int x3, .int x4, .int x5, .int x6] (am_ans v []) h1 Q) := by
  refine (eq_run 4 (q := (52, [.ref 187, .int x1, .int x2, .int x3, .int x4, .int x5, .int x6], [.int (x5 + x6), .ref 6], hp nS M)) (by with_unfolding_all rfl)).trans ?_
  exact eq_call2 (e := (.invokevirtual 128, 3, 0, 308, 122)) (as := [.ref 6, .int (x5 + x6)]) (r := []) (n := 2) (m := 2) (by with_unfolding_all rfl) rfl (by decide) (by with_unfolding_all rfl) (by decide) (by with_unfolding_all rfl) ⟨fun _ => am_rec_ok (c := 15) (by with_unfolding_all rfl) (by decide +kernel), fun z => by simp at z⟩
set_option maxRecDepth 20000 in
theorem b_48_55 {d nS : Nat} {x1 x2 x3 x4 x5 x6 s0 : Int32} {M : am_M} {Q : Option Value → am_H → Prop} (h1 : vp_in (x2 + x6) 400) : am_Wp d 48 55 [.ref 187, .int x1, .int x2, .int x3, .int x4, .int x5, .int x6] [.int s0] (hp nS M) Q = if s0 = (M 198 (x2 + x6).toNatClampNeg) then am_Wp d 48 69 [.ref 187, .int x1, .int x2, .int x3, .int x4, .int x5, .int x6] [] (hp nS M) Q else am_Wp d 48 67 [.ref 187, .int x1, .int x2, .int x3, .int x4, .int x5, .int x6] [] (hp nS M) Q := by
  refine (eq_run 5 (q := (63, [.ref 187, .int x1, .int x2, .int x3, .int x4, .int x5, .int x6], [.int (x2 + x6), .ref 198, .int s0], hp nS M)) (by with_unfolding_all rfl)).trans ?_
  refine (eq_ald (e := (.iaload, 1, 0, 0, 0)) (by with_unfolding_all rfl) rfl (n := 400) (by with_unfolding_all rfl) h1).trans ?_
  exact eq_cmp_eq (by with_unfolding_all rfl)
set_option maxRecDepth 20000 in
theorem b_48_67 {d nS : Nat} {x1 x2 x3 x4 x5 x6 : Int32} {M : am_M} {Q : Option Value → am_H → Prop} : am_Wp d 48 67 [.ref 187, .int x1, .int x2, .int x3, .int x4, .int x5, .int x6] [] (hp nS M) Q = Q (some (.int 0)) (hp nS M) := by
  refine (eq_run 1 (q := (68, [.ref 187, .int x1, .int x2, .int x3, .int x4, .int x5, .int x6], [.int 0], hp nS M)) (by with_unfolding_all rfl)).trans ?_
  exact eq_retI2 (e := (.ireturn, 1, 0, 0, 0)) (t := .boolean) (by with_unfolding_all rfl) rfl (by with_unfolding_all rfl) rfl
set_option maxRecDepth 20000 in
theorem b_48_69 {d nS : Nat} {x1 x2 x3 x4 x5 x6 : Int32} {M : am_M} {Q : Option Value → am_H → Prop} : am_Wp d 48 69 [.ref 187, .int x1, .int x2, .int x3, .int x4, .int x5, .int x6] [] (hp nS M) Q = am_Wp d 48 38 [.ref 187, .int x1, .int x2, .int x3, .int x4, .int x5, .int (x6 + 1)] [] (hp nS M) Q := by
  exact eq_run 2 (q := (38, [.ref 187, .int x1, .int x2, .int x3, .int x4, .int x5, .int (x6 + 1)], [], hp nS M)) (by with_unfolding_all rfl)
set_option maxRecDepth 20000 in
theorem b_48_75 {d nS : Nat} {x1 x2 x3 x4 x5 x6 : Int32} {M : am_M} {Q : Option Value → am_H → Prop} : am_Wp d 48 75 [.ref 187, .int x1, .int x2, .int x3, .int x4, .int x5, .int x6] [] (hp nS M) Q = Q (some (.int 1)) (hp nS M) := by
  refine (eq_run 1 (q := (76, [.ref 187, .int x1, .int x2, .int x3, .int x4, .int x5, .int x6], [.int 1], hp nS M)) (by with_unfolding_all rfl)).trans ?_
  exact eq_retI2 (e := (.ireturn, 1, 0, 0, 0)) (t := .boolean) (by with_unfolding_all rfl) rfl (by with_unfolding_all rfl) rfl
-- LarkExchange$Reader keeps(II)V (49, (187, None, None))
set_option maxRecDepth 20000 in
theorem b_49_0 {d nS : Nat} {x1 x2 x3 : Int32} {M : am_M} {Q : Option Value → am_H → Prop} : am_Wp d 49 0 [.ref 187, .int x1, .int x2, .int x3] [] (hp nS M) Q = if 400 < (M 187 9) then am_Wp d 49 50 [.ref 187, .int x1, .int x2, .int x3] [] (hp nS M) Q else am_Wp d 49 10 [.ref 187, .int x1, .int x2, .int x3] [] (hp nS M) Q := by
  refine (eq_run 3 (q := (7, [.ref 187, .int x1, .int x2, .int x3], [.int 400, .int (M 187 9)], hp nS M)) (by with_unfolding_all rfl)).trans ?_
  exact eq_cmp_gt (by with_unfolding_all rfl)
set_option maxRecDepth 20000 in
theorem b_49_10 {d nS : Nat} {x1 x2 x3 : Int32} {M : am_M} {Q : Option Value → am_H → Prop} (h1 : vp_in (M 187 9) 401) (h2 : vp_in ((am_up M 199 (M 187 9).toNatClampNeg x1) 187 9) 401) (h3 : vp_in ((am_up (am_up M 199 (M 187 9).toNatClampNeg x1) 201 ((am_up M 199 (M 187 9).toNatClampNeg x1) 187 9).toNatClampNeg x2) 187 9) 401) : am_Wp d 49 10 [.ref 187, .int x1, .int x2, .int x3] [] (hp nS M) Q = am_Wp d 49 50 [.ref 187, .int x1, .int x2, .int x3] [] (hp nS (am_up (am_up (am_up (am_up M 199 (M 187 9).toNatClampNeg x1) 201 ((am_up M 199 (M 187 9).toNatClampNeg x1) 187 9).toNatClampNeg x2) 200 ((am_up (am_up M 199 (M 187 9).toNatClampNeg x1) 201 ((am_up M 199 (M 187 9).toNatClampNeg x1) 187 9).toNatClampNeg x2) 187 9).toNatClampNeg x3) 187 9 (((am_up (am_up (am_up M 199 (M 187 9).toNatClampNeg x1) 201 ((am_up M 199 (M 187 9).toNatClampNeg x1) 187 9).toNatClampNeg x2) 200 ((am_up (am_up M 199 (M 187 9).toNatClampNeg x1) 201 ((am_up M 199 (M 187 9).toNatClampNeg x1) 187 9).toNatClampNeg x2) 187 9).toNatClampNeg x3) 187 9) + 1))) Q := by
  refine (eq_run 5 (q := (19, [.ref 187, .int x1, .int x2, .int x3], [.int x1, .int (M 187 9), .ref 199], hp nS M)) (by with_unfolding_all rfl)).trans ?_
  refine (eq_ast (e := (.iastore, 1, 0, 0, 0)) (by with_unfolding_all rfl) rfl (n := 401) (by with_unfolding_all rfl) (by decide) h1).trans ?_
  refine (eq_run 5 (q := (29, [.ref 187, .int x1, .int x2, .int x3], [.int x2, .int ((am_up M 199 (M 187 9).toNatClampNeg x1) 187 9), .ref 201], hp nS (am_up M 199 (M 187 9).toNatClampNeg x1))) (by with_unfolding_all rfl)).trans ?_
  refine (eq_ast (e := (.iastore, 1, 0, 0, 0)) (by with_unfolding_all rfl) rfl (n := 401) (by with_unfolding_all rfl) (by decide) h2).trans ?_
  refine (eq_run 5 (q := (39, [.ref 187, .int x1, .int x2, .int x3], [.int x3, .int ((am_up (am_up M 199 (M 187 9).toNatClampNeg x1) 201 ((am_up M 199 (M 187 9).toNatClampNeg x1) 187 9).toNatClampNeg x2) 187 9), .ref 200], hp nS (am_up (am_up M 199 (M 187 9).toNatClampNeg x1) 201 ((am_up M 199 (M 187 9).toNatClampNeg x1) 187 9).toNatClampNeg x2))) (by with_unfolding_all rfl)).trans ?_
  refine (eq_ast (e := (.iastore, 1, 0, 0, 0)) (by with_unfolding_all rfl) rfl (n := 401) (by with_unfolding_all rfl) (by decide) h3).trans ?_
  exact eq_run 6 (q := (50, [.ref 187, .int x1, .int x2, .int x3], [], hp nS (am_up (am_up (am_up (am_up M 199 (M 187 9).toNatClampNeg x1) 201 ((am_up M 199 (M 187 9).toNatClampNeg x1) 187 9).toNatClampNeg x2) 200 ((am_up (am_up M 199 (M 187 9).toNatClampNeg x1) 201 ((am_up M 199 (M 187 9).toNatClampNeg x1) 187 9).toNatClampNeg x2) 187 9).toNatClampNeg x3) 187 9 (((am_up (am_up (am_up M 199 (M 187 9).toNatClampNeg x1) 201 ((am_up M 199 (M 187 9).toNatClampNeg x1) 187 9).toNatClampNeg x2) 200 ((am_up (am_up M 199 (M 187 9).toNatClampNeg x1) 201 ((am_up M 199 (M 187 9).toNatClampNeg x1) 187 9).toNatClampNeg x2) 187 9).toNatClampNeg x3) 187 9) + 1)))) (by with_unfolding_all rfl)
-- LarkExchange$Reader valueOf(II)I (50, (187, None, None))
set_option maxRecDepth 20000 in
theorem b_50_0 {d nS : Nat} {x1 x2 : Int32} {M : am_M} {Q : Option Value → am_H → Prop} : am_Wp d 50 0 [.ref 187, .int x1, .int x2, .retAddr 0, .retAddr 0] [] (hp nS M) Q = am_Wp d 50 5 [.ref 187, .int x1, .int x2, .int 0, .int x1] [] (hp nS M) Q := by
  exact eq_run 4 (q := (5, [.ref 187, .int x1, .int x2, .int 0, .int x1], [], hp nS M)) (by with_unfolding_all rfl)
set_option maxRecDepth 20000 in
theorem b_50_5 {d nS : Nat} {x1 x2 x3 x4 : Int32} {M : am_M} {Q : Option Value → am_H → Prop} : am_Wp d 50 5 [.ref 187, .int x1, .int x2, .int x3, .int x4] [] (hp nS M) Q = if x2 ≤ x4 then am_Wp d 50 33 [.ref 187, .int x1, .int x2, .int x3, .int x4] [] (hp nS M) Q else am_Wp d 50 11 [.ref 187, .int x1, .int x2, .int x3, .int x4] [] (hp nS M) Q := by
  refine (eq_run 2 (q := (8, [.ref 187, .int x1, .int x2, .int x3, .int x4], [.int x2, .int x4], hp nS M)) (by with_unfolding_all rfl)).trans ?_
  exact eq_cmp_ge (by with_unfolding_all rfl)
set_option maxRecDepth 20000 in
theorem b_50_11 {d nS : Nat} {x1 x2 x3 x4 : Int32} {M : am_M} {Q : Option Value → am_H → Prop} (h1 : vp_in x4 400) : am_Wp d 50 11 [.ref 187, .int x1, .int x2, .int x3, .int x4] [] (hp nS M) Q = am_Wp d 50 5 [.ref 187, .int x1, .int x2, .int (((x3 * 10) + (M 198 x4.toNatClampNeg)) - 48), .int (x4 + 1)] [] (hp nS M) Q := by
  refine (eq_run 6 (q := (21, [.ref 187, .int x1, .int x2, .int x3, .int x4], [.int x4, .ref 198, .int (x3 * 10)], hp nS M)) (by with_unfolding_all rfl)).trans ?_
  refine (eq_ald (e := (.iaload, 1, 0, 0, 0)) (by with_unfolding_all rfl) rfl (n := 400) (by with_unfolding_all rfl) h1).trans ?_
  exact eq_run 6 (q := (5, [.ref 187, .int x1, .int x2, .int (((x3 * 10) + (M 198 x4.toNatClampNeg)) - 48), .int (x4 + 1)], [], hp nS M)) (by with_unfolding_all rfl)
set_option maxRecDepth 20000 in
theorem b_50_33 {d nS : Nat} {x1 x2 x3 x4 : Int32} {M : am_M} {Q : Option Value → am_H → Prop} : am_Wp d 50 33 [.ref 187, .int x1, .int x2, .int x3, .int x4] [] (hp nS M) Q = Q (some (.int x3)) (hp nS M) := by
  refine (eq_run 1 (q := (34, [.ref 187, .int x1, .int x2, .int x3, .int x4], [.int x3], hp nS M)) (by with_unfolding_all rfl)).trans ?_
  exact eq_retI2 (e := (.ireturn, 1, 0, 0, 0)) (t := .int) (by with_unfolding_all rfl) rfl (by with_unfolding_all rfl) rfl
-- LarkExchange$Reader kind()I (51, (187,))
set_option maxRecDepth 20000 in
theorem b_51_0 {d nS : Nat} {M : am_M} {Q : Option Value → am_H → Prop} : am_Wp d 51 0 [.ref 187] [] (hp nS M) Q = if (M 187 9) ≤ (M 187 10) then am_Wp d 51 23 [.ref 187] [] (hp nS M) Q else am_Wp d 51 11 [.ref 187] [] (hp nS M) Q := by
  refine (eq_run 4 (q := (8, [.ref 187], [.int (M 187 9), .int (M 187 10)], hp nS M)) (by with_unfolding_all rfl)).trans ?_
  exact eq_cmp_ge (by with_unfolding_all rfl)
set_option maxRecDepth 20000 in
theorem b_51_11 {d nS : Nat} {M : am_M} {Q : Option Value → am_H → Prop} (h1 : vp_in (M 187 10) 401) : am_Wp d 51 11 [.ref 187] [] (hp nS M) Q = am_Wp d 51 25 [.ref 187] [.int (M 199 (M 187 10).toNatClampNeg)] (hp nS M) Q := by
  refine (eq_run 4 (q := (19, [.ref 187], [.int (M 187 10), .ref 199], hp nS M)) (by with_unfolding_all rfl)).trans ?_
  refine (eq_ald (e := (.iaload, 1, 0, 0, 0)) (by with_unfolding_all rfl) rfl (n := 401) (by with_unfolding_all rfl) h1).trans ?_
  exact eq_run 1 (q := (25, [.ref 187], [.int (M 199 (M 187 10).toNatClampNeg)], hp nS M)) (by with_unfolding_all rfl)
set_option maxRecDepth 20000 in
theorem b_51_23 {d nS : Nat} {M : am_M} {Q : Option Value → am_H → Prop} : am_Wp d 51 23 [.ref 187] [] (hp nS M) Q = am_Wp d 51 25 [.ref 187] [.int 37] (hp nS M) Q := by
  exact eq_run 1 (q := (25, [.ref 187], [.int 37], hp nS M)) (by with_unfolding_all rfl)
set_option maxRecDepth 20000 in
theorem b_51_25 {d nS : Nat} {s0 : Int32} {M : am_M} {Q : Option Value → am_H → Prop} : am_Wp d 51 25 [.ref 187] [.int s0] (hp nS M) Q = Q (some (.int s0)) (hp nS M) := by
  exact eq_retI2 (e := (.ireturn, 1, 0, 0, 0)) (t := .int) (by with_unfolding_all rfl) rfl (by with_unfolding_all rfl) rfl
-- LarkExchange$Reader canBegin(I)Z (52, (187, None))
set_option maxRecDepth 20000 in
theorem b_52_0 {d nS : Nat} {x1 : Int32} {M : am_M} {Q : Option Value → am_H → Prop} : am_Wp (d + 1) 52 0 [.ref 187, .int x1, .retAddr 0] [] (hp nS M) Q = am_Wp d 51 0 [.ref 187] [] (hp nS M) (fun v h1 => am_Wp (d + 1) 52 4 [.ref 187, .int x1, .retAddr 0] (am_ans v []) h1 Q) := by
  refine (eq_run 1 (q := (1, [.ref 187, .int x1, .retAddr 0], [.ref 187], hp nS M)) (by with_unfolding_all rfl)).trans ?_
  exact eq_call2 (e := (.invokevirtual 60, 3, 0, 51, 105)) (as := [.ref 187]) (r := []) (n := 1) (m := 1) (by with_unfolding_all rfl) rfl (by decide) (by with_unfolding_all rfl) (by decide) (by with_unfolding_all rfl) ⟨fun _ => am_rec_ok (c := 8) (by with_unfolding_all rfl) (by decide +kernel), fun z => by simp at z⟩
set_option maxRecDepth 20000 in
theorem b_52_4 {d nS : Nat} {x1 s0 : Int32} {M : am_M} {Q : Option Value → am_H → Prop} : am_Wp d 52 4 [.ref 187, .int x1, .retAddr 0] [.int s0] (hp nS M) Q = if ¬ x1 = 0 then am_Wp d 52 29 [.ref 187, .int x1, .int s0] [] (hp nS M) Q else am_Wp d 52 9 [.ref 187, .int x1, .int s0] [] (hp nS M) Q := by
  refine (eq_run 2 (q := (6, [.ref 187, .int x1, .int s0], [.int x1], hp nS M)) (by with_unfolding_all rfl)).trans ?_
  exact eq_if_ne (by with_unfolding_all rfl)
set_option maxRecDepth 20000 in
theorem b_52_9 {d nS : Nat} {x1 x2 : Int32} {M : am_M} {Q : Option Value → am_H → Prop} : am_Wp d 52 9 [.ref 187, .int x1, .int x2] [] (hp nS M) Q = if x2 = 0 then am_Wp d 52 23 [.ref 187, .int x1, .int x2] [] (hp nS M) Q else am_Wp d 52 13 [.ref 187, .int x1, .int x2] [] (hp nS M) Q := by
  refine (eq_run 1 (q := (10, [.ref 187, .int x1, .int x2], [.int x2], hp nS M)) (by with_unfolding_all rfl)).trans ?_
  exact eq_if_eq (by with_unfolding_all rfl)
set_option maxRecDepth 20000 in
theorem b_52_13 {d nS : Nat} {x1 x2 : Int32} {M : am_M} {Q : Option Value → am_H → Prop} : am_Wp d 52 13 [.ref 187, .int x1, .int x2] [] (hp nS M) Q = if x2 = 1 then am_Wp d 52 23 [.ref 187, .int x1, .int x2] [] (hp nS M) Q else am_Wp d 52 18 [.ref 187, .int x1, .int x2] [] (hp nS M) Q := by
  refine (eq_run 2 (q := (15, [.ref 187, .int x1, .int x2], [.int 1, .int x2], hp nS M)) (by with_unfolding_all rfl)).trans ?_
  exact eq_cmp_eq (by with_unfolding_all rfl)
set_option maxRecDepth 20000 in
theorem b_52_18 {d nS : Nat} {x1 x2 : Int32} {M : am_M} {Q : Option Value → am_H → Prop} : am_Wp d 52 18 [.ref 187, .int x1, .int x2] [] (hp nS M) Q = if ¬ x2 = 2 then am_Wp d 52 27 [.ref 187, .int x1, .int x2] [] (hp nS M) Q else am_Wp d 52 23 [.ref 187, .int x1, .int x2] [] (hp nS M) Q := by
  refine (eq_run 2 (q := (20, [.ref 187, .int x1, .int x2], [.int 2, .int x2], hp nS M)) (by with_unfolding_all rfl)).trans ?_
  exact eq_cmp_ne (by with_unfolding_all rfl)
set_option maxRecDepth 20000 in
theorem b_52_23 {d nS : Nat} {x1 x2 : Int32} {M : am_M} {Q : Option Value → am_H → Prop} : am_Wp d 52 23 [.ref 187, .int x1, .int x2] [] (hp nS M) Q = am_Wp d 52 28 [.ref 187, .int x1, .int x2] [.int 1] (hp nS M) Q := by
  exact eq_run 2 (q := (28, [.ref 187, .int x1, .int x2], [.int 1], hp nS M)) (by with_unfolding_all rfl)
set_option maxRecDepth 20000 in
theorem b_52_27 {d nS : Nat} {x1 x2 : Int32} {M : am_M} {Q : Option Value → am_H → Prop} : am_Wp d 52 27 [.ref 187, .int x1, .int x2] [] (hp nS M) Q = am_Wp d 52 28 [.ref 187, .int x1, .int x2] [.int 0] (hp nS M) Q := by
  exact eq_run 1 (q := (28, [.ref 187, .int x1, .int x2], [.int 0], hp nS M)) (by with_unfolding_all rfl)
set_option maxRecDepth 20000 in
theorem b_52_28 {d nS : Nat} {x1 x2 s0 : Int32} {M : am_M} {Q : Option Value → am_H → Prop} (h1 : am_rok .boolean s0 = true) : am_Wp d 52 28 [.ref 187, .int x1, .int x2] [.int s0] (hp nS M) Q = Q (some (.int s0)) (hp nS M) := by
  exact eq_retI2 (e := (.ireturn, 1, 0, 0, 0)) (t := .boolean) (by with_unfolding_all rfl) rfl (by with_unfolding_all rfl) h1
set_option maxRecDepth 20000 in
theorem b_52_29 {d nS : Nat} {x1 x2 : Int32} {M : am_M} {Q : Option Value → am_H → Prop} : am_Wp d 52 29 [.ref 187, .int x1, .int x2] [] (hp nS M) Q = if ¬ x1 = 3 then am_Wp d 52 48 [.ref 187, .int x1, .int x2] [] (hp nS M) Q else am_Wp d 52 34 [.ref 187, .int x1, .int x2] [] (hp nS M) Q := by
  refine (eq_run 2 (q := (31, [.ref 187, .int x1, .int x2], [.int 3, .int x1], hp nS M)) (by with_unfolding_all rfl)).trans ?_
  exact eq_cmp_ne (by with_unfolding_all rfl)
set_option maxRecDepth 20000 in
theorem b_52_34 {d nS : Nat} {x1 x2 : Int32} {M : am_M} {Q : Option Value → am_H → Prop} : am_Wp d 52 34 [.ref 187, .int x1, .int x2] [] (hp nS M) Q = if ¬ x2 = 24 then am_Wp d 52 44 [.ref 187, .int x1, .int x2] [] (hp nS M) Q else am_Wp d 52 40 [.ref 187, .int x1, .int x2] [] (hp nS M) Q := by
  refine (eq_run 2 (q := (37, [.ref 187, .int x1, .int x2], [.int 24, .int x2], hp nS M)) (by with_unfolding_all rfl)).trans ?_
  exact eq_cmp_ne (by with_unfolding_all rfl)
set_option maxRecDepth 20000 in
theorem b_52_40 {d nS : Nat} {x1 x2 : Int32} {M : am_M} {Q : Option Value → am_H → Prop} : am_Wp d 52 40 [.ref 187, .int x1, .int x2] [] (hp nS M) Q = am_Wp d 52 59 [.ref 187, .int x1, .int x2] [.int 1] (hp nS M) Q := by
  exact eq_run 2 (q := (59, [.ref 187, .int x1, .int x2], [.int 1], hp nS M)) (by with_unfolding_all rfl)
set_option maxRecDepth 20000 in
theorem b_52_44 {d nS : Nat} {x1 x2 : Int32} {M : am_M} {Q : Option Value → am_H → Prop} : am_Wp d 52 44 [.ref 187, .int x1, .int x2] [] (hp nS M) Q = am_Wp d 52 59 [.ref 187, .int x1, .int x2] [.int 0] (hp nS M) Q := by
  exact eq_run 2 (q := (59, [.ref 187, .int x1, .int x2], [.int 0], hp nS M)) (by with_unfolding_all rfl)
set_option maxRecDepth 20000 in
theorem b_52_48 {d nS : Nat} {x1 x2 : Int32} {M : am_M} {Q : Option Value → am_H → Prop} : am_Wp d 52 48 [.ref 187, .int x1, .int x2] [] (hp nS M) Q = if ¬ x2 = 16 then am_Wp d 52 58 [.ref 187, .int x1, .int x2] [] (hp nS M) Q else am_Wp d 52 54 [.ref 187, .int x1, .int x2] [] (hp nS M) Q := by
  refine (eq_run 2 (q := (51, [.ref 187, .int x1, .int x2], [.int 16, .int x2], hp nS M)) (by with_unfolding_all rfl)).trans ?_
  exact eq_cmp_ne (by with_unfolding_all rfl)
set_option maxRecDepth 20000 in
theorem b_52_54 {d nS : Nat} {x1 x2 : Int32} {M : am_M} {Q : Option Value → am_H → Prop} : am_Wp d 52 54 [.ref 187, .int x1, .int x2] [] (hp nS M) Q = am_Wp d 52 59 [.ref 187, .int x1, .int x2] [.int 1] (hp nS M) Q := by
  exact eq_run 2 (q := (59, [.ref 187, .int x1, .int x2], [.int 1], hp nS M)) (by with_unfolding_all rfl)
set_option maxRecDepth 20000 in
theorem b_52_58 {d nS : Nat} {x1 x2 : Int32} {M : am_M} {Q : Option Value → am_H → Prop} : am_Wp d 52 58 [.ref 187, .int x1, .int x2] [] (hp nS M) Q = am_Wp d 52 59 [.ref 187, .int x1, .int x2] [.int 0] (hp nS M) Q := by
  exact eq_run 1 (q := (59, [.ref 187, .int x1, .int x2], [.int 0], hp nS M)) (by with_unfolding_all rfl)
set_option maxRecDepth 20000 in
theorem b_52_59 {d nS : Nat} {x1 x2 s0 : Int32} {M : am_M} {Q : Option Value → am_H → Prop} (h1 : am_rok .boolean s0 = true) : am_Wp d 52 59 [.ref 187, .int x1, .int x2] [.int s0] (hp nS M) Q = Q (some (.int s0)) (hp nS M) := by
  exact eq_retI2 (e := (.ireturn, 1, 0, 0, 0)) (t := .boolean) (by with_unfolding_all rfl) rfl (by with_unfolding_all rfl) h1
-- LarkExchange$Reader fails(I)Z (53, (187, None))
set_option maxRecDepth 20000 in
theorem b_53_0 {d nS : Nat} {x1 : Int32} {M : am_M} {Q : Option Value → am_H → Prop} : am_Wp d 53 0 [.ref 187, .int x1] [] (hp nS M) Q = if ((am_up M 187 1 x1) 187 9) ≤ ((am_up M 187 1 x1) 187 10) then am_Wp d 53 29 [.ref 187, .int x1] [.ref 187] (hp nS (am_up M 187 1 x1)) Q else am_Wp d 53 17 [.ref 187, .int x1] [.ref 187] (hp nS (am_up M 187 1 x1)) Q := by
  refine (eq_run 8 (q := (14, [.ref 187, .int x1], [.int ((am_up M 187 1 x1) 187 9), .int ((am_up M 187 1 x1) 187 10), .ref 187], hp nS (am_up M 187 1 x1))) (by with_unfolding_all rfl)).trans ?_
  exact eq_cmp_ge (by with_unfolding_all rfl)
set_option maxRecDepth 20000 in
theorem b_53_17 {d nS : Nat} {x1 : Int32} {M : am_M} {Q : Option Value → am_H → Prop} (h1 : vp_in (M 187 10) 401) : am_Wp d 53 17 [.ref 187, .int x1] [.ref 187] (hp nS M) Q = am_Wp d 53 30 [.ref 187, .int x1] [.int (M 201 (M 187 10).toNatClampNeg), .ref 187] (hp nS M) Q := by
  refine (eq_run 4 (q := (25, [.ref 187, .int x1], [.int (M 187 10), .ref 201, .ref 187], hp nS M)) (by with_unfolding_all rfl)).trans ?_
  refine (eq_ald (e := (.iaload, 1, 0, 0, 0)) (by with_unfolding_all rfl) rfl (n := 401) (by with_unfolding_all rfl) h1).trans ?_
  exact eq_run 1 (q := (30, [.ref 187, .int x1], [.int (M 201 (M 187 10).toNatClampNeg), .ref 187], hp nS M)) (by with_unfolding_all rfl)
set_option maxRecDepth 20000 in
theorem b_53_29 {d nS : Nat} {x1 : Int32} {M : am_M} {Q : Option Value → am_H → Prop} : am_Wp d 53 29 [.ref 187, .int x1] [.ref 187] (hp nS M) Q = am_Wp d 53 30 [.ref 187, .int x1] [.int (-1), .ref 187] (hp nS M) Q := by
  exact eq_run 1 (q := (30, [.ref 187, .int x1], [.int (-1), .ref 187], hp nS M)) (by with_unfolding_all rfl)
set_option maxRecDepth 20000 in
theorem b_53_30 {d nS : Nat} {x1 s1 : Int32} {M : am_M} {Q : Option Value → am_H → Prop} : am_Wp d 53 30 [.ref 187, .int x1] [.int s1, .ref 187] (hp nS M) Q = Q (some (.int 0)) (hp nS (am_up M 187 2 s1)) := by
  refine (eq_run 2 (q := (34, [.ref 187, .int x1], [.int 0], hp nS (am_up M 187 2 s1))) (by with_unfolding_all rfl)).trans ?_
  exact eq_retI2 (e := (.ireturn, 1, 0, 0, 0)) (t := .boolean) (by with_unfolding_all rfl) rfl (by with_unfolding_all rfl) rfl
-- LarkExchange$Reader readsLaw()Z (54, (187,))
set_option maxRecDepth 20000 in
theorem b_54_0 {d nS : Nat} {M : am_M} {Q : Option Value → am_H → Prop} : am_Wp (d + 1) 54 0 [.ref 187] [] (hp nS M) Q = am_Wp d 51 0 [.ref 187] [] (hp nS M) (fun v h1 => am_Wp (d + 1) 54 8 [.ref 187] (am_ans v [.ref 188]) h1 Q) := by
  refine (eq_run 3 (q := (5, [.ref 187], [.ref 187, .ref 188], hp nS M)) (by with_unfolding_all rfl)).trans ?_
  exact eq_call2 (e := (.invokevirtual 60, 3, 0, 51, 105)) (as := [.ref 187]) (r := [.ref 188]) (n := 1) (m := 1) (by with_unfolding_all rfl) rfl (by decide) (by with_unfolding_all rfl) (by decide) (by with_unfolding_all rfl) ⟨fun _ => am_rec_ok (c := 8) (by with_unfolding_all rfl) (by decide +kernel), fun z => by simp at z⟩
set_option maxRecDepth 20000 in
theorem b_54_8 {d nS : Nat} {s1 : Int32} {M : am_M} {Q : Option Value → am_H → Prop} : am_Wp (d + 1) 54 8 [.ref 187] [.int s1, .ref 188] (hp nS M) Q = am_Wp d 27 0 [.ref 188, .int s1] [] (hp nS M) (fun v h1 => am_Wp (d + 1) 54 11 [.ref 187] (am_ans v []) h1 Q) := by
  exact eq_call2 (e := (.invokevirtual 150, 3, 0, 27, 125)) (as := [.ref 188, .int s1]) (r := []) (n := 2) (m := 2) (by with_unfolding_all rfl) rfl (by decide) (by with_unfolding_all rfl) (by decide) (by with_unfolding_all rfl) ⟨fun _ => am_rec_ok (c := 5) (by with_unfolding_all rfl) (by decide +kernel), fun z => by simp at z⟩
set_option maxRecDepth 20000 in
theorem b_54_11 {d nS : Nat} {M : am_M} {Q : Option Value → am_H → Prop} : am_Wp (d + 1) 54 11 [.ref 187] [] (hp nS M) Q = am_Wp d 55 0 [.ref 187, .retAddr 0, .retAddr 0, .retAddr 0, .retAddr 0] [] (hp nS (am_up M 187 10 ((M 187 10) + 1))) (fun v h1 => am_Wp (d + 1) 54 25 [.ref 187] (am_ans v []) h1 Q) := by
  refine (eq_run 7 (q := (22, [.ref 187], [.ref 187], hp nS (am_up M 187 10 ((M 187 10) + 1)))) (by with_unfolding_all rfl)).trans ?_
  exact eq_call2 (e := (.invokevirtual 154, 3, 0, 55, 126)) (as := [.ref 187]) (r := []) (n := 1) (m := 5) (by with_unfolding_all rfl) rfl (by decide) (by with_unfolding_all rfl) (by decide) (by with_unfolding_all rfl) ⟨fun _ => am_rec_ok (c := 8) (by with_unfolding_all rfl) (by decide +kernel), fun z => by simp at z⟩
set_option maxRecDepth 20000 in
theorem b_54_25 {d nS : Nat} {s0 : Int32} {M : am_M} {Q : Option Value → am_H → Prop} : am_Wp d 54 25 [.ref 187] [.int s0] (hp nS M) Q = if ¬ s0 = 0 then am_Wp d 54 30 [.ref 187] [] (hp nS M) Q else am_Wp d 54 28 [.ref 187] [] (hp nS M) Q := by
  exact eq_if_ne (by with_unfolding_all rfl)
set_option maxRecDepth 20000 in
theorem b_54_28 {d nS : Nat} {M : am_M} {Q : Option Value → am_H → Prop} : am_Wp d 54 28 [.ref 187] [] (hp nS M) Q = Q (some (.int 0)) (hp nS M) := by
  refine (eq_run 1 (q := (29, [.ref 187], [.int 0], hp nS M)) (by with_unfolding_all rfl)).trans ?_
  exact eq_retI2 (e := (.ireturn, 1, 0, 0, 0)) (t := .boolean) (by with_unfolding_all rfl) rfl (by with_unfolding_all rfl) rfl
set_option maxRecDepth 20000 in
theorem b_54_30 {d nS : Nat} {M : am_M} {Q : Option Value → am_H → Prop} : am_Wp (d + 1) 54 30 [.ref 187] [] (hp nS M) Q = am_Wp d 29 0 [.ref 188] [] (hp nS M) (fun v h1 => am_Wp (d + 1) 54 37 [.ref 187] (am_ans v []) h1 Q) := by
  refine (eq_run 2 (q := (34, [.ref 187], [.ref 188], hp nS M)) (by with_unfolding_all rfl)).trans ?_
  exact eq_call2 (e := (.invokevirtual 157, 3, 0, 29, 127)) (as := [.ref 188]) (r := []) (n := 1) (m := 1) (by with_unfolding_all rfl) rfl (by decide) (by with_unfolding_all rfl) (by decide) (by with_unfolding_all rfl) ⟨fun _ => am_rec_ok (c := 5) (by with_unfolding_all rfl) (by decide +kernel), fun z => by simp at z⟩
set_option maxRecDepth 20000 in
theorem b_54_37 {d nS : Nat} {M : am_M} {Q : Option Value → am_H → Prop} : am_Wp (d + 1) 54 37 [.ref 187] [] (hp nS M) Q = am_Wp d 51 0 [.ref 187] [] (hp nS M) (fun v h1 => am_Wp (d + 1) 54 41 [.ref 187] (am_ans v []) h1 Q) := by
  refine (eq_run 1 (q := (38, [.ref 187], [.ref 187], hp nS M)) (by with_unfolding_all rfl)).trans ?_
  exact eq_call2 (e := (.invokevirtual 60, 3, 0, 51, 105)) (as := [.ref 187]) (r := []) (n := 1) (m := 1) (by with_unfolding_all rfl) rfl (by decide) (by with_unfolding_all rfl) (by decide) (by with_unfolding_all rfl) ⟨fun _ => am_rec_ok (c := 8) (by with_unfolding_all rfl) (by decide +kernel), fun z => by simp at z⟩
set_option maxRecDepth 20000 in
theorem b_54_41 {d nS : Nat} {s0 : Int32} {M : am_M} {Q : Option Value → am_H → Prop} : am_Wp d 54 41 [.ref 187] [.int s0] (hp nS M) Q = if ¬ s0 = 3 then am_Wp d 54 65 [.ref 187] [] (hp nS M) Q else am_Wp d 54 45 [.ref 187] [] (hp nS M) Q := by
  refine (eq_run 1 (q := (42, [.ref 187], [.int 3, .int s0], hp nS M)) (by with_unfolding_all rfl)).trans ?_
  exact eq_cmp_ne (by with_unfolding_all rfl)
set_option maxRecDepth 20000 in
theorem b_54_45 {d nS : Nat} {M : am_M} {Q : Option Value → am_H → Prop} : am_Wp (d + 1) 54 45 [.ref 187] [] (hp nS M) Q = am_Wp d 57 0 [.ref 187, .int 0, .retAddr 0, .retAddr 0, .retAddr 0] [] (hp nS (am_up M 187 10 ((M 187 10) + 1))) (fun v h1 => am_Wp (d + 1) 54 60 [.ref 187] (am_ans v []) h1 Q) := by
  refine (eq_run 8 (q := (57, [.ref 187], [.int 0, .ref 187], hp nS (am_up M 187 10 ((M 187 10) + 1)))) (by with_unfolding_all rfl)).trans ?_
  exact eq_call2 (e := (.invokevirtual 160, 3, 0, 57, 128)) (as := [.ref 187, .int 0]) (r := []) (n := 2) (m := 5) (by with_unfolding_all rfl) rfl (by decide) (by with_unfolding_all rfl) (by decide) (by with_unfolding_all rfl) ⟨fun _ => am_rec_ok (c := 8) (by with_unfolding_all rfl) (by decide +kernel), fun z => by simp at z⟩
set_option maxRecDepth 20000 in
theorem b_54_60 {d nS : Nat} {s0 : Int32} {M : am_M} {Q : Option Value → am_H → Prop} : am_Wp d 54 60 [.ref 187] [.int s0] (hp nS M) Q = if ¬ s0 = 0 then am_Wp d 54 65 [.ref 187] [] (hp nS M) Q else am_Wp d 54 63 [.ref 187] [] (hp nS M) Q := by
  exact eq_if_ne (by with_unfolding_all rfl)
set_option maxRecDepth 20000 in
theorem b_54_63 {d nS : Nat} {M : am_M} {Q : Option Value → am_H → Prop} : am_Wp d 54 63 [.ref 187] [] (hp nS M) Q = Q (some (.int 0)) (hp nS M) := by
  refine (eq_run 1 (q := (64, [.ref 187], [.int 0], hp nS M)) (by with_unfolding_all rfl)).trans ?_
  exact eq_retI2 (e := (.ireturn, 1, 0, 0, 0)) (t := .boolean) (by with_unfolding_all rfl) rfl (by with_unfolding_all rfl) rfl
set_option maxRecDepth 20000 in
theorem b_54_65 {d nS : Nat} {M : am_M} {Q : Option Value → am_H → Prop} : am_Wp (d + 1) 54 65 [.ref 187] [] (hp nS M) Q = am_Wp d 30 0 [.ref 188] [] (hp nS M) (fun v h1 => am_Wp (d + 1) 54 72 [.ref 187] (am_ans v []) h1 Q) := by
  refine (eq_run 2 (q := (69, [.ref 187], [.ref 188], hp nS M)) (by with_unfolding_all rfl)).trans ?_
  exact eq_call2 (e := (.invokevirtual 163, 3, 0, 30, 129)) (as := [.ref 188]) (r := []) (n := 1) (m := 1) (by with_unfolding_all rfl) rfl (by decide) (by with_unfolding_all rfl) (by decide) (by with_unfolding_all rfl) ⟨fun _ => am_rec_ok (c := 5) (by with_unfolding_all rfl) (by decide +kernel), fun z => by simp at z⟩
set_option maxRecDepth 20000 in
theorem b_54_72 {d nS : Nat} {M : am_M} {Q : Option Value → am_H → Prop} : am_Wp d 54 72 [.ref 187] [] (hp nS M) Q = Q (some (.int 1)) (hp nS M) := by
  refine (eq_run 1 (q := (73, [.ref 187], [.int 1], hp nS M)) (by with_unfolding_all rfl)).trans ?_
  exact eq_retI2 (e := (.ireturn, 1, 0, 0, 0)) (t := .boolean) (by with_unfolding_all rfl) rfl (by with_unfolding_all rfl) rfl
-- LarkExchange$Reader readsSum()Z (55, (187,))
set_option maxRecDepth 20000 in
theorem b_55_0 {d nS : Nat} {M : am_M} {Q : Option Value → am_H → Prop} : am_Wp (d + 1) 55 0 [.ref 187, .retAddr 0, .retAddr 0, .retAddr 0, .retAddr 0] [] (hp nS M) Q = am_Wp d 56 0 [.ref 187, .int 0, .retAddr 0, .retAddr 0] [] (hp nS M) (fun v h1 => am_Wp (d + 1) 55 8 [.ref 187, .int 38, .retAddr 0, .retAddr 0, .retAddr 0] (am_ans v []) h1 Q) := by
  refine (eq_run 4 (q := (5, [.ref 187, .int 38, .retAddr 0, .retAddr 0, .retAddr 0], [.int 0, .ref 187], hp nS M)) (by with_unfolding_all rfl)).trans ?_
  exact eq_call2 (e := (.invokevirtual 171, 3, 0, 56, 132)) (as := [.ref 187, .int 0]) (r := []) (n := 2) (m := 4) (by with_unfolding_all rfl) rfl (by decide) (by with_unfolding_all rfl) (by decide) (by with_unfolding_all rfl) ⟨fun _ => am_rec_ok (c := 8) (by with_unfolding_all rfl) (by decide +kernel), fun z => by simp at z⟩
set_option maxRecDepth 20000 in
theorem b_55_8 {d nS : Nat} {x1 s0 : Int32} {M : am_M} {Q : Option Value → am_H → Prop} : am_Wp d 55 8 [.ref 187, .int x1, .retAddr 0, .retAddr 0, .retAddr 0] [.int s0] (hp nS M) Q = if ¬ s0 = 0 then am_Wp d 55 13 [.ref 187, .int x1, .retAddr 0, .retAddr 0, .retAddr 0] [] (hp nS M) Q else am_Wp d 55 11 [.ref 187, .int x1, .retAddr 0, .retAddr 0, .retAddr 0] [] (hp nS M) Q := by
  exact eq_if_ne (by with_unfolding_all rfl)
set_option maxRecDepth 20000 in
theorem b_55_11 {d nS : Nat} {x1 : Int32} {M : am_M} {Q : Option Value → am_H → Prop} : am_Wp d 55 11 [.ref 187, .int x1, .retAddr 0, .retAddr 0, .retAddr 0] [] (hp nS M) Q = Q (some (.int 0)) (hp nS M) := by
  refine (eq_run 1 (q := (12, [.ref 187, .int x1, .retAddr 0, .retAddr 0, .retAddr 0], [.int 0], hp nS M)) (by with_unfolding_all rfl)).trans ?_
  exact eq_retI2 (e := (.ireturn, 1, 0, 0, 0)) (t := .boolean) (by with_unfolding_all rfl) rfl (by with_unfolding_all rfl) rfl
set_option maxRecDepth 20000 in
theorem b_55_13 {d nS : Nat} {x1 : Int32} {M : am_M} {Q : Option Value → am_H → Prop} : am_Wp d 55 13 [.ref 187, .int x1, .retAddr 0, .retAddr 0, .retAddr 0] [] (hp nS M) Q = am_Wp d 55 15 [.ref 187, .int x1, .int 0, .retAddr 0, .retAddr 0] [] (hp nS M) Q := by
  exact eq_run 2 (q := (15, [.ref 187, .int x1, .int 0, .retAddr 0, .retAddr 0], [], hp nS M)) (by with_unfolding_all rfl)
set_option maxRecDepth 20000 in
theorem b_55_15 {d nS : Nat} {x1 x2 : Int32} {zx3 zx4 : Value} {M : am_M} {Q : Option Value → am_H → Prop} : am_Wp d 55 15 [.ref 187, .int x1, .int x2, zx3, zx4] [] (hp nS M) Q = if 400 ≤ x2 then am_Wp d 55 145 [.ref 187, .int x1, .int x2, zx3, zx4] [] (hp nS M) Q else am_Wp d 55 22 [.ref 187, .int x1, .int x2, zx3, zx4] [] (hp nS M) Q := by
  refine (eq_run 2 (q := (19, [.ref 187, .int x1, .int x2, zx3, zx4], [.int 400, .int x2], hp nS M)) (by with_unfolding_all rfl)).trans ?_
  exact eq_cmp_ge (by with_unfolding_all rfl)
set_option maxRecDepth 20000 in
theorem b_55_22 {d nS : Nat} {x1 x2 : Int32} {zx3 zx4 : Value} {M : am_M} {Q : Option Value → am_H → Prop} : am_Wp (d + 1) 55 22 [.ref 187, .int x1, .int x2, zx3, zx4] [] (hp nS M) Q = am_Wp d 51 0 [.ref 187] [] (hp nS M) (fun v h1 => am_Wp (d + 1) 55 26 [.ref 187, .int x1, .int x2, zx3, zx4] (am_ans v []) h1 Q) := by
  refine (eq_run 1 (q := (23, [.ref 187, .int x1, .int x2, zx3, zx4], [.ref 187], hp nS M)) (by with_unfolding_all rfl)).trans ?_
  exact eq_call2 (e := (.invokevirtual 60, 3, 0, 51, 105)) (as := [.ref 187]) (r := []) (n := 1) (m := 1) (by with_unfolding_all rfl) rfl (by decide) (by with_unfolding_all rfl) (by decide) (by with_unfolding_all rfl) ⟨fun _ => am_rec_ok (c := 8) (by with_unfolding_all rfl) (by decide +kernel), fun z => by simp at z⟩
set_option maxRecDepth 20000 in
theorem b_55_26 {d nS : Nat} {x1 x2 s0 : Int32} {zx3 zx4 : Value} {M : am_M} {Q : Option Value → am_H → Prop} : am_Wp d 55 26 [.ref 187, .int x1, .int x2, zx3, zx4] [.int s0] (hp nS M) Q = if s0 = 29 then am_Wp d 55 39 [.ref 187, .int x1, .int x2, .int s0, zx4] [] (hp nS M) Q else am_Wp d 55 33 [.ref 187, .int x1, .int x2, .int s0, zx4] [] (hp nS M) Q := by
  refine (eq_run 3 (q := (30, [.ref 187, .int x1, .int x2, .int s0, zx4], [.int 29, .int s0], hp nS M)) (by with_unfolding_all rfl)).trans ?_
  exact eq_cmp_eq (by with_unfolding_all rfl)
set_option maxRecDepth 20000 in
theorem b_55_33 {d nS : Nat} {x1 x2 x3 : Int32} {zx4 : Value} {M : am_M} {Q : Option Value → am_H → Prop} : am_Wp d 55 33 [.ref 187, .int x1, .int x2, .int x3, zx4] [] (hp nS M) Q = if ¬ x3 = 30 then am_Wp d 55 43 [.ref 187, .int x1, .int x2, .int x3, zx4] [] (hp nS M) Q else am_Wp d 55 39 [.ref 187, .int x1, .int x2, .int x3, zx4] [] (hp nS M) Q := by
  refine (eq_run 2 (q := (36, [.ref 187, .int x1, .int x2, .int x3, zx4], [.int 30, .int x3], hp nS M)) (by with_unfolding_all rfl)).trans ?_
  exact eq_cmp_ne (by with_unfolding_all rfl)
set_option maxRecDepth 20000 in
theorem b_55_39 {d nS : Nat} {x1 x2 x3 : Int32} {zx4 : Value} {M : am_M} {Q : Option Value → am_H → Prop} : am_Wp d 55 39 [.ref 187, .int x1, .int x2, .int x3, zx4] [] (hp nS M) Q = am_Wp d 55 44 [.ref 187, .int x1, .int x2, .int x3, zx4] [.int 1] (hp nS M) Q := by
  exact eq_run 2 (q := (44, [.ref 187, .int x1, .int x2, .int x3, zx4], [.int 1], hp nS M)) (by with_unfolding_all rfl)
set_option maxRecDepth 20000 in
theorem b_55_43 {d nS : Nat} {x1 x2 x3 : Int32} {zx4 : Value} {M : am_M} {Q : Option Value → am_H → Prop} : am_Wp d 55 43 [.ref 187, .int x1, .int x2, .int x3, zx4] [] (hp nS M) Q = am_Wp d 55 44 [.ref 187, .int x1, .int x2, .int x3, zx4] [.int 0] (hp nS M) Q := by
  exact eq_run 1 (q := (44, [.ref 187, .int x1, .int x2, .int x3, zx4], [.int 0], hp nS M)) (by with_unfolding_all rfl)
set_option maxRecDepth 20000 in
theorem b_55_44 {d nS : Nat} {x1 x2 x3 s0 : Int32} {zx4 : Value} {M : am_M} {Q : Option Value → am_H → Prop} : am_Wp d 55 44 [.ref 187, .int x1, .int x2, .int x3, zx4] [.int s0] (hp nS M) Q = if ¬ s0 = 0 then am_Wp d 55 70 [.ref 187, .int x1, .int x2, .int x3, .int s0] [] (hp nS M) Q else am_Wp d 55 51 [.ref 187, .int x1, .int x2, .int x3, .int s0] [] (hp nS M) Q := by
  refine (eq_run 2 (q := (48, [.ref 187, .int x1, .int x2, .int x3, .int s0], [.int s0], hp nS M)) (by with_unfolding_all rfl)).trans ?_
  exact eq_if_ne (by with_unfolding_all rfl)
set_option maxRecDepth 20000 in
theorem b_55_51 {d nS : Nat} {x1 x2 x3 x4 : Int32} {M : am_M} {Q : Option Value → am_H → Prop} : am_Wp d 55 51 [.ref 187, .int x1, .int x2, .int x3, .int x4] [] (hp nS M) Q = if x1 = 38 then am_Wp d 55 70 [.ref 187, .int x1, .int x2, .int x3, .int x4] [] (hp nS M) Q else am_Wp d 55 57 [.ref 187, .int x1, .int x2, .int x3, .int x4] [] (hp nS M) Q := by
  refine (eq_run 2 (q := (54, [.ref 187, .int x1, .int x2, .int x3, .int x4], [.int 38, .int x1], hp nS M)) (by with_unfolding_all rfl)).trans ?_
  exact eq_cmp_eq (by with_unfolding_all rfl)
set_option maxRecDepth 20000 in
theorem b_55_57 {d nS : Nat} {x1 x2 x3 x4 : Int32} {M : am_M} {Q : Option Value → am_H → Prop} : am_Wp (d + 1) 55 57 [.ref 187, .int x1, .int x2, .int x3, .int x4] [] (hp nS M) Q = am_Wp d 28 0 [.ref 188, .int (x1 ^^^ (-1))] [] (hp nS M) (fun v h1 => am_Wp (d + 1) 55 67 [.ref 187, .int x1, .int x2, .int x3, .int x4] (am_ans v []) h1 Q) := by
  refine (eq_run 5 (q := (64, [.ref 187, .int x1, .int x2, .int x3, .int x4], [.int (x1 ^^^ (-1)), .ref 188], hp nS M)) (by with_unfolding_all rfl)).trans ?_
  exact eq_call2 (e := (.invokevirtual 169, 3, 0, 28, 131)) (as := [.ref 188, .int (x1 ^^^ (-1))]) (r := []) (n := 2) (m := 2) (by with_unfolding_all rfl) rfl (by decide) (by with_unfolding_all rfl) (by decide) (by with_unfolding_all rfl) ⟨fun _ => am_rec_ok (c := 5) (by with_unfolding_all rfl) (by decide +kernel), fun z => by simp at z⟩
set_option maxRecDepth 20000 in
theorem b_55_67 {d nS : Nat} {x1 x2 x3 x4 : Int32} {M : am_M} {Q : Option Value → am_H → Prop} : am_Wp d 55 67 [.ref 187, .int x1, .int x2, .int x3, .int x4] [] (hp nS M) Q = am_Wp d 55 70 [.ref 187, .int 38, .int x2, .int x3, .int x4] [] (hp nS M) Q := by
  exact eq_run 2 (q := (70, [.ref 187, .int 38, .int x2, .int x3, .int x4], [], hp nS M)) (by with_unfolding_all rfl)
set_option maxRecDepth 20000 in
theorem b_55_70 {d nS : Nat} {x1 x2 x3 x4 : Int32} {M : am_M} {Q : Option Value → am_H → Prop} : am_Wp d 55 70 [.ref 187, .int x1, .int x2, .int x3, .int x4] [] (hp nS M) Q = if ¬ x4 = 0 then am_Wp d 55 89 [.ref 187, .int x1, .int x2, .int x3, .int x4] [] (hp nS M) Q else am_Wp d 55 75 [.ref 187, .int x1, .int x2, .int x3, .int x4] [] (hp nS M) Q := by
  refine (eq_run 1 (q := (72, [.ref 187, .int x1, .int x2, .int x3, .int x4], [.int x4], hp nS M)) (by with_unfolding_all rfl)).trans ?_
  exact eq_if_ne (by with_unfolding_all rfl)
set_option maxRecDepth 20000 in
theorem b_55_75 {d nS : Nat} {x1 x2 x3 x4 : Int32} {M : am_M} {Q : Option Value → am_H → Prop} : am_Wp d 55 75 [.ref 187, .int x1, .int x2, .int x3, .int x4] [] (hp nS M) Q = if x3 = 27 then am_Wp d 55 89 [.ref 187, .int x1, .int x2, .int x3, .int x4] [] (hp nS M) Q else am_Wp d 55 81 [.ref 187, .int x1, .int x2, .int x3, .int x4] [] (hp nS M) Q := by
  refine (eq_run 2 (q := (78, [.ref 187, .int x1, .int x2, .int x3, .int x4], [.int 27, .int x3], hp nS M)) (by with_unfolding_all rfl)).trans ?_
  exact eq_cmp_eq (by with_unfolding_all rfl)
set_option maxRecDepth 20000 in
theorem b_55_81 {d nS : Nat} {x1 x2 x3 x4 : Int32} {M : am_M} {Q : Option Value → am_H → Prop} : am_Wp d 55 81 [.ref 187, .int x1, .int x2, .int x3, .int x4] [] (hp nS M) Q = if x3 = 28 then am_Wp d 55 89 [.ref 187, .int x1, .int x2, .int x3, .int x4] [] (hp nS M) Q else am_Wp d 55 87 [.ref 187, .int x1, .int x2, .int x3, .int x4] [] (hp nS M) Q := by
  refine (eq_run 2 (q := (84, [.ref 187, .int x1, .int x2, .int x3, .int x4], [.int 28, .int x3], hp nS M)) (by with_unfolding_all rfl)).trans ?_
  exact eq_cmp_eq (by with_unfolding_all rfl)
set_option maxRecDepth 20000 in
theorem b_55_87 {d nS : Nat} {x1 x2 x3 x4 : Int32} {M : am_M} {Q : Option Value → am_H → Prop} : am_Wp d 55 87 [.ref 187, .int x1, .int x2, .int x3, .int x4] [] (hp nS M) Q = Q (some (.int 1)) (hp nS M) := by
  refine (eq_run 1 (q := (88, [.ref 187, .int x1, .int x2, .int x3, .int x4], [.int 1], hp nS M)) (by with_unfolding_all rfl)).trans ?_
  exact eq_retI2 (e := (.ireturn, 1, 0, 0, 0)) (t := .boolean) (by with_unfolding_all rfl) rfl (by with_unfolding_all rfl) rfl
set_option maxRecDepth 20000 in
theorem b_55_89 {d nS : Nat} {x1 x2 x3 x4 : Int32} {M : am_M} {Q : Option Value → am_H → Prop} : am_Wp d 55 89 [.ref 187, .int x1, .int x2, .int x3, .int x4] [] (hp nS M) Q = if ¬ x3 = 30 then am_Wp d 55 110 [.ref 187, .int x1, .int x2, .int x3, .int x4] [.ref 187] (hp nS (am_up M 187 10 ((M 187 10) + 1))) Q else am_Wp d 55 106 [.ref 187, .int x1, .int x2, .int x3, .int x4] [.ref 187] (hp nS (am_up M 187 10 ((M 187 10) + 1))) Q := by
  refine (eq_run 9 (q := (103, [.ref 187, .int x1, .int x2, .int x3, .int x4], [.int 30, .int x3, .ref 187], hp nS (am_up M 187 10 ((M 187 10) + 1)))) (by with_unfolding_all rfl)).trans ?_
  exact eq_cmp_ne (by with_unfolding_all rfl)
set_option maxRecDepth 20000 in
theorem b_55_106 {d nS : Nat} {x1 x2 x3 x4 : Int32} {M : am_M} {Q : Option Value → am_H → Prop} : am_Wp d 55 106 [.ref 187, .int x1, .int x2, .int x3, .int x4] [.ref 187] (hp nS M) Q = am_Wp d 55 111 [.ref 187, .int x1, .int x2, .int x3, .int x4] [.int 1, .ref 187] (hp nS M) Q := by
  exact eq_run 2 (q := (111, [.ref 187, .int x1, .int x2, .int x3, .int x4], [.int 1, .ref 187], hp nS M)) (by with_unfolding_all rfl)
set_option maxRecDepth 20000 in
theorem b_55_110 {d nS : Nat} {x1 x2 x3 x4 : Int32} {M : am_M} {Q : Option Value → am_H → Prop} : am_Wp d 55 110 [.ref 187, .int x1, .int x2, .int x3, .int x4] [.ref 187] (hp nS M) Q = am_Wp d 55 111 [.ref 187, .int x1, .int x2, .int x3, .int x4] [.int 0, .ref 187] (hp nS M) Q := by
  exact eq_run 1 (q := (111, [.ref 187, .int x1, .int x2, .int x3, .int x4], [.int 0, .ref 187], hp nS M)) (by with_unfolding_all rfl)
set_option maxRecDepth 20000 in
theorem b_55_111 {d nS : Nat} {x1 x2 x3 x4 s1 : Int32} {M : am_M} {Q : Option Value → am_H → Prop} : am_Wp (d + 1) 55 111 [.ref 187, .int x1, .int x2, .int x3, .int x4] [.int s1, .ref 187] (hp nS M) Q = am_Wp d 56 0 [.ref 187, .int s1, .retAddr 0, .retAddr 0] [] (hp nS M) (fun v h1 => am_Wp (d + 1) 55 114 [.ref 187, .int x1, .int x2, .int x3, .int x4] (am_ans v []) h1 Q) := by
  exact eq_call2 (e := (.invokevirtual 171, 3, 0, 56, 132)) (as := [.ref 187, .int s1]) (r := []) (n := 2) (m := 4) (by with_unfolding_all rfl) rfl (by decide) (by with_unfolding_all rfl) (by decide) (by with_unfolding_all rfl) ⟨fun _ => am_rec_ok (c := 8) (by with_unfolding_all rfl) (by decide +kernel), fun z => by simp at z⟩
set_option maxRecDepth 20000 in
theorem b_55_114 {d nS : Nat} {x1 x2 x3 x4 s0 : Int32} {M : am_M} {Q : Option Value → am_H → Prop} : am_Wp d 55 114 [.ref 187, .int x1, .int x2, .int x3, .int x4] [.int s0] (hp nS M) Q = if ¬ s0 = 0 then am_Wp d 55 119 [.ref 187, .int x1, .int x2, .int x3, .int x4] [] (hp nS M) Q else am_Wp d 55 117 [.ref 187, .int x1, .int x2, .int x3, .int x4] [] (hp nS M) Q := by
  exact eq_if_ne (by with_unfolding_all rfl)
set_option maxRecDepth 20000 in
theorem b_55_117 {d nS : Nat} {x1 x2 x3 x4 : Int32} {M : am_M} {Q : Option Value → am_H → Prop} : am_Wp d 55 117 [.ref 187, .int x1, .int x2, .int x3, .int x4] [] (hp nS M) Q = Q (some (.int 0)) (hp nS M) := by
  refine (eq_run 1 (q := (118, [.ref 187, .int x1, .int x2, .int x3, .int x4], [.int 0], hp nS M)) (by with_unfolding_all rfl)).trans ?_
  exact eq_retI2 (e := (.ireturn, 1, 0, 0, 0)) (t := .boolean) (by with_unfolding_all rfl) rfl (by with_unfolding_all rfl) rfl
set_option maxRecDepth 20000 in
theorem b_55_119 {d nS : Nat} {x1 x2 x3 x4 : Int32} {M : am_M} {Q : Option Value → am_H → Prop} : am_Wp d 55 119 [.ref 187, .int x1, .int x2, .int x3, .int x4] [] (hp nS M) Q = if x4 = 0 then am_Wp d 55 137 [.ref 187, .int x1, .int x2, .int x3, .int x4] [] (hp nS M) Q else am_Wp d 55 124 [.ref 187, .int x1, .int x2, .int x3, .int x4] [] (hp nS M) Q := by
  refine (eq_run 1 (q := (121, [.ref 187, .int x1, .int x2, .int x3, .int x4], [.int x4], hp nS M)) (by with_unfolding_all rfl)).trans ?_
  exact eq_if_eq (by with_unfolding_all rfl)
set_option maxRecDepth 20000 in
theorem b_55_124 {d nS : Nat} {x1 x2 x3 x4 : Int32} {M : am_M} {Q : Option Value → am_H → Prop} : am_Wp (d + 1) 55 124 [.ref 187, .int x1, .int x2, .int x3, .int x4] [] (hp nS M) Q = am_Wp d 28 0 [.ref 188, .int (x3 ^^^ (-1))] [] (hp nS M) (fun v h1 => am_Wp (d + 1) 55 134 [.ref 187, .int x1, .int x2, .int x3, .int x4] (am_ans v []) h1 Q) := by
  refine (eq_run 5 (q := (131, [.ref 187, .int x1, .int x2, .int x3, .int x4], [.int (x3 ^^^ (-1)), .ref 188], hp nS M)) (by with_unfolding_all rfl)).trans ?_
  exact eq_call2 (e := (.invokevirtual 169, 3, 0, 28, 131)) (as := [.ref 188, .int (x3 ^^^ (-1))]) (r := []) (n := 2) (m := 2) (by with_unfolding_all rfl) rfl (by decide) (by with_unfolding_all rfl) (by decide) (by with_unfolding_all rfl) ⟨fun _ => am_rec_ok (c := 5) (by with_unfolding_all rfl) (by decide +kernel), fun z => by simp at z⟩
set_option maxRecDepth 20000 in
theorem b_55_134 {d nS : Nat} {x1 x2 x3 x4 : Int32} {M : am_M} {Q : Option Value → am_H → Prop} : am_Wp d 55 134 [.ref 187, .int x1, .int x2, .int x3, .int x4] [] (hp nS M) Q = am_Wp d 55 139 [.ref 187, .int x1, .int x2, .int x3, .int x4] [] (hp nS M) Q := by
  exact eq_run 1 (q := (139, [.ref 187, .int x1, .int x2, .int x3, .int x4], [], hp nS M)) (by with_unfolding_all rfl)
set_option maxRecDepth 20000 in
theorem b_55_137 {d nS : Nat} {x1 x2 x3 x4 : Int32} {M : am_M} {Q : Option Value → am_H → Prop} : am_Wp d 55 137 [.ref 187, .int x1, .int x2, .int x3, .int x4] [] (hp nS M) Q = am_Wp d 55 139 [.ref 187, .int x3, .int x2, .int x3, .int x4] [] (hp nS M) Q := by
  exact eq_run 2 (q := (139, [.ref 187, .int x3, .int x2, .int x3, .int x4], [], hp nS M)) (by with_unfolding_all rfl)
set_option maxRecDepth 20000 in
theorem b_55_139 {d nS : Nat} {x1 x2 x3 x4 : Int32} {M : am_M} {Q : Option Value → am_H → Prop} : am_Wp d 55 139 [.ref 187, .int x1, .int x2, .int x3, .int x4] [] (hp nS M) Q = am_Wp d 55 15 [.ref 187, .int x1, .int (x2 + 1), .int x3, .int x4] [] (hp nS M) Q := by
  exact eq_run 2 (q := (15, [.ref 187, .int x1, .int (x2 + 1), .int x3, .int x4], [], hp nS M)) (by with_unfolding_all rfl)
set_option maxRecDepth 20000 in
theorem b_55_145 {d nS : Nat} {x1 x2 : Int32} {zx3 zx4 : Value} {M : am_M} {Q : Option Value → am_H → Prop} : am_Wp d 55 145 [.ref 187, .int x1, .int x2, zx3, zx4] [] (hp nS M) Q = Q (some (.int 0)) (hp nS M) := by
  refine (eq_run 1 (q := (146, [.ref 187, .int x1, .int x2, zx3, zx4], [.int 0], hp nS M)) (by with_unfolding_all rfl)).trans ?_
  exact eq_retI2 (e := (.ireturn, 1, 0, 0, 0)) (t := .boolean) (by with_unfolding_all rfl) rfl (by with_unfolding_all rfl) rfl
-- LarkExchange$Reader readsUnit(Z)Z (56, (187, None))
set_option maxRecDepth 20000 in
theorem b_56_0 {d nS : Nat} {x1 : Int32} {M : am_M} {Q : Option Value → am_H → Prop} : am_Wp (d + 1) 56 0 [.ref 187, .int x1, .retAddr 0, .retAddr 0] [] (hp nS M) Q = am_Wp d 51 0 [.ref 187] [] (hp nS M) (fun v h1 => am_Wp (d + 1) 56 4 [.ref 187, .int x1, .retAddr 0, .retAddr 0] (am_ans v []) h1 Q) := by
  refine (eq_run 1 (q := (1, [.ref 187, .int x1, .retAddr 0, .retAddr 0], [.ref 187], hp nS M)) (by with_unfolding_all rfl)).trans ?_
  exact eq_call2 (e := (.invokevirtual 60, 3, 0, 51, 105)) (as := [.ref 187]) (r := []) (n := 1) (m := 1) (by with_unfolding_all rfl) rfl (by decide) (by with_unfolding_all rfl) (by decide) (by with_unfolding_all rfl) ⟨fun _ => am_rec_ok (c := 8) (by with_unfolding_all rfl) (by decide +kernel), fun z => by simp at z⟩
set_option maxRecDepth 20000 in
theorem b_56_4 {d nS : Nat} {x1 s0 : Int32} {M : am_M} {Q : Option Value → am_H → Prop} : am_Wp d 56 4 [.ref 187, .int x1, .retAddr 0, .retAddr 0] [.int s0] (hp nS M) Q = if ¬ s0 = 36 then am_Wp d 56 15 [.ref 187, .int x1, .int s0, .retAddr 0] [] (hp nS M) Q else am_Wp d 56 11 [.ref 187, .int x1, .int s0, .retAddr 0] [] (hp nS M) Q := by
  refine (eq_run 3 (q := (8, [.ref 187, .int x1, .int s0, .retAddr 0], [.int 36, .int s0], hp nS M)) (by with_unfolding_all rfl)).trans ?_
  exact eq_cmp_ne (by with_unfolding_all rfl)
set_option maxRecDepth 20000 in
theorem b_56_11 {d nS : Nat} {x1 x2 : Int32} {M : am_M} {Q : Option Value → am_H → Prop} : am_Wp d 56 11 [.ref 187, .int x1, .int x2, .retAddr 0] [] (hp nS M) Q = am_Wp d 56 16 [.ref 187, .int x1, .int x2, .retAddr 0] [.int 1] (hp nS M) Q := by
  exact eq_run 2 (q := (16, [.ref 187, .int x1, .int x2, .retAddr 0], [.int 1], hp nS M)) (by with_unfolding_all rfl)
set_option maxRecDepth 20000 in
theorem b_56_15 {d nS : Nat} {x1 x2 : Int32} {M : am_M} {Q : Option Value → am_H → Prop} : am_Wp d 56 15 [.ref 187, .int x1, .int x2, .retAddr 0] [] (hp nS M) Q = am_Wp d 56 16 [.ref 187, .int x1, .int x2, .retAddr 0] [.int 0] (hp nS M) Q := by
  exact eq_run 1 (q := (16, [.ref 187, .int x1, .int x2, .retAddr 0], [.int 0], hp nS M)) (by with_unfolding_all rfl)
set_option maxRecDepth 20000 in
theorem b_56_16 {d nS : Nat} {x1 x2 s0 : Int32} {M : am_M} {Q : Option Value → am_H → Prop} : am_Wp d 56 16 [.ref 187, .int x1, .int x2, .retAddr 0] [.int s0] (hp nS M) Q = if ¬ s0 = 0 then am_Wp d 56 43 [.ref 187, .int x1, .int x2, .int s0] [] (hp nS M) Q else am_Wp d 56 21 [.ref 187, .int x1, .int x2, .int s0] [] (hp nS M) Q := by
  refine (eq_run 2 (q := (18, [.ref 187, .int x1, .int x2, .int s0], [.int s0], hp nS M)) (by with_unfolding_all rfl)).trans ?_
  exact eq_if_ne (by with_unfolding_all rfl)
set_option maxRecDepth 20000 in
theorem b_56_21 {d nS : Nat} {x1 x2 x3 : Int32} {M : am_M} {Q : Option Value → am_H → Prop} : am_Wp d 56 21 [.ref 187, .int x1, .int x2, .int x3] [] (hp nS M) Q = if ¬ x1 = 0 then am_Wp d 56 37 [.ref 187, .int x1, .int x2, .int x3] [] (hp nS M) Q else am_Wp d 56 25 [.ref 187, .int x1, .int x2, .int x3] [] (hp nS M) Q := by
  refine (eq_run 1 (q := (22, [.ref 187, .int x1, .int x2, .int x3], [.int x1], hp nS M)) (by with_unfolding_all rfl)).trans ?_
  exact eq_if_ne (by with_unfolding_all rfl)
set_option maxRecDepth 20000 in
theorem b_56_25 {d nS : Nat} {x1 x2 x3 : Int32} {M : am_M} {Q : Option Value → am_H → Prop} : am_Wp d 56 25 [.ref 187, .int x1, .int x2, .int x3] [] (hp nS M) Q = if x2 < 7 then am_Wp d 56 37 [.ref 187, .int x1, .int x2, .int x3] [] (hp nS M) Q else am_Wp d 56 31 [.ref 187, .int x1, .int x2, .int x3] [] (hp nS M) Q := by
  refine (eq_run 2 (q := (28, [.ref 187, .int x1, .int x2, .int x3], [.int 7, .int x2], hp nS M)) (by with_unfolding_all rfl)).trans ?_
  exact eq_cmp_lt (by with_unfolding_all rfl)
set_option maxRecDepth 20000 in
theorem b_56_31 {d nS : Nat} {x1 x2 x3 : Int32} {M : am_M} {Q : Option Value → am_H → Prop} : am_Wp d 56 31 [.ref 187, .int x1, .int x2, .int x3] [] (hp nS M) Q = if x2 ≤ 15 then am_Wp d 56 43 [.ref 187, .int x1, .int x2, .int x3] [] (hp nS M) Q else am_Wp d 56 37 [.ref 187, .int x1, .int x2, .int x3] [] (hp nS M) Q := by
  refine (eq_run 2 (q := (34, [.ref 187, .int x1, .int x2, .int x3], [.int 15, .int x2], hp nS M)) (by with_unfolding_all rfl)).trans ?_
  exact eq_cmp_le (by with_unfolding_all rfl)
set_option maxRecDepth 20000 in
theorem b_56_37 {d nS : Nat} {x1 x2 x3 : Int32} {M : am_M} {Q : Option Value → am_H → Prop} : am_Wp (d + 1) 56 37 [.ref 187, .int x1, .int x2, .int x3] [] (hp nS M) Q = am_Wp d 53 0 [.ref 187, .int 1] [] (hp nS M) (fun v h1 => am_Wp (d + 1) 56 42 [.ref 187, .int x1, .int x2, .int x3] (am_ans v []) h1 Q) := by
  refine (eq_run 2 (q := (39, [.ref 187, .int x1, .int x2, .int x3], [.int 1, .ref 187], hp nS M)) (by with_unfolding_all rfl)).trans ?_
  exact eq_call2 (e := (.invokevirtual 68, 3, 0, 53, 107)) (as := [.ref 187, .int 1]) (r := []) (n := 2) (m := 2) (by with_unfolding_all rfl) rfl (by decide) (by with_unfolding_all rfl) (by decide) (by with_unfolding_all rfl) ⟨fun _ => am_rec_ok (c := 8) (by with_unfolding_all rfl) (by decide +kernel), fun z => by simp at z⟩
set_option maxRecDepth 20000 in
theorem b_56_42 {d nS : Nat} {x1 x2 x3 s0 : Int32} {M : am_M} {Q : Option Value → am_H → Prop} (h1 : am_rok .boolean s0 = true) : am_Wp d 56 42 [.ref 187, .int x1, .int x2, .int x3] [.int s0] (hp nS M) Q = Q (some (.int s0)) (hp nS M) := by
  exact eq_retI2 (e := (.ireturn, 1, 0, 0, 0)) (t := .boolean) (by with_unfolding_all rfl) rfl (by with_unfolding_all rfl) h1
set_option maxRecDepth 20000 in
theorem b_56_43 {d nS : Nat} {x1 x2 x3 : Int32} {M : am_M} {Q : Option Value → am_H → Prop} : am_Wp d 56 43 [.ref 187, .int x1, .int x2, .int x3] [] (hp nS M) Q = if x1 = 0 then am_Wp d 56 65 [.ref 187, .int x1, .int x2, .int x3] [] (hp nS M) Q else am_Wp d 56 47 [.ref 187, .int x1, .int x2, .int x3] [] (hp nS M) Q := by
  refine (eq_run 1 (q := (44, [.ref 187, .int x1, .int x2, .int x3], [.int x1], hp nS M)) (by with_unfolding_all rfl)).trans ?_
  exact eq_if_eq (by with_unfolding_all rfl)
set_option maxRecDepth 20000 in
theorem b_56_47 {d nS : Nat} {x1 x2 x3 : Int32} {M : am_M} {Q : Option Value → am_H → Prop} (h1 : vp_in (M 187 10) 401) : am_Wp d 56 47 [.ref 187, .int x1, .int x2, .int x3] [] (hp nS M) Q = if ¬ (M 200 (M 187 10).toNatClampNeg) = 0 then am_Wp d 56 65 [.ref 187, .int x1, .int x2, .int x3] [] (hp nS M) Q else am_Wp d 56 59 [.ref 187, .int x1, .int x2, .int x3] [] (hp nS M) Q := by
  refine (eq_run 4 (q := (55, [.ref 187, .int x1, .int x2, .int x3], [.int (M 187 10), .ref 200], hp nS M)) (by with_unfolding_all rfl)).trans ?_
  refine (eq_ald (e := (.iaload, 1, 0, 0, 0)) (by with_unfolding_all rfl) rfl (n := 401) (by with_unfolding_all rfl) h1).trans ?_
  exact eq_if_ne (by with_unfolding_all rfl)
set_option maxRecDepth 20000 in
theorem b_56_59 {d nS : Nat} {x1 x2 x3 : Int32} {M : am_M} {Q : Option Value → am_H → Prop} : am_Wp (d + 1) 56 59 [.ref 187, .int x1, .int x2, .int x3] [] (hp nS M) Q = am_Wp d 53 0 [.ref 187, .int 2] [] (hp nS M) (fun v h1 => am_Wp (d + 1) 56 64 [.ref 187, .int x1, .int x2, .int x3] (am_ans v []) h1 Q) := by
  refine (eq_run 2 (q := (61, [.ref 187, .int x1, .int x2, .int x3], [.int 2, .ref 187], hp nS M)) (by with_unfolding_all rfl)).trans ?_
  exact eq_call2 (e := (.invokevirtual 68, 3, 0, 53, 107)) (as := [.ref 187, .int 2]) (r := []) (n := 2) (m := 2) (by with_unfolding_all rfl) rfl (by decide) (by with_unfolding_all rfl) (by decide) (by with_unfolding_all rfl) ⟨fun _ => am_rec_ok (c := 8) (by with_unfolding_all rfl) (by decide +kernel), fun z => by simp at z⟩
set_option maxRecDepth 20000 in
theorem b_56_64 {d nS : Nat} {x1 x2 x3 s0 : Int32} {M : am_M} {Q : Option Value → am_H → Prop} (h1 : am_rok .boolean s0 = true) : am_Wp d 56 64 [.ref 187, .int x1, .int x2, .int x3] [.int s0] (hp nS M) Q = Q (some (.int s0)) (hp nS M) := by
  exact eq_retI2 (e := (.ireturn, 1, 0, 0, 0)) (t := .boolean) (by with_unfolding_all rfl) rfl (by with_unfolding_all rfl) h1
set_option maxRecDepth 20000 in
theorem b_56_65 {d nS : Nat} {x1 x2 x3 : Int32} {M : am_M} {Q : Option Value → am_H → Prop} : am_Wp d 56 65 [.ref 187, .int x1, .int x2, .int x3] [] (hp nS M) Q = if x3 = 0 then am_Wp d 56 85 [.ref 187, .int x1, .int x2, .int x3] [.ref 188] (hp nS M) Q else am_Wp d 56 73 [.ref 187, .int x1, .int x2, .int x3] [.ref 188] (hp nS M) Q := by
  refine (eq_run 3 (q := (70, [.ref 187, .int x1, .int x2, .int x3], [.int x3, .ref 188], hp nS M)) (by with_unfolding_all rfl)).trans ?_
  exact eq_if_eq (by with_unfolding_all rfl)
set_option maxRecDepth 20000 in
theorem b_56_73 {d nS : Nat} {x1 x2 x3 : Int32} {M : am_M} {Q : Option Value → am_H → Prop} (h1 : vp_in (M 187 10) 401) : am_Wp d 56 73 [.ref 187, .int x1, .int x2, .int x3] [.ref 188] (hp nS M) Q = am_Wp d 56 88 [.ref 187, .int x1, .int x2, .int x3] [.int (M 200 (M 187 10).toNatClampNeg), .ref 188] (hp nS M) Q := by
  refine (eq_run 4 (q := (81, [.ref 187, .int x1, .int x2, .int x3], [.int (M 187 10), .ref 200, .ref 188], hp nS M)) (by with_unfolding_all rfl)).trans ?_
  refine (eq_ald (e := (.iaload, 1, 0, 0, 0)) (by with_unfolding_all rfl) rfl (n := 401) (by with_unfolding_all rfl) h1).trans ?_
  exact eq_run 1 (q := (88, [.ref 187, .int x1, .int x2, .int x3], [.int (M 200 (M 187 10).toNatClampNeg), .ref 188], hp nS M)) (by with_unfolding_all rfl)
set_option maxRecDepth 20000 in
theorem b_56_85 {d nS : Nat} {x1 x2 x3 : Int32} {M : am_M} {Q : Option Value → am_H → Prop} : am_Wp d 56 85 [.ref 187, .int x1, .int x2, .int x3] [.ref 188] (hp nS M) Q = am_Wp d 56 88 [.ref 187, .int x1, .int x2, .int x3] [.int (x2 ^^^ (-1)), .ref 188] (hp nS M) Q := by
  exact eq_run 3 (q := (88, [.ref 187, .int x1, .int x2, .int x3], [.int (x2 ^^^ (-1)), .ref 188], hp nS M)) (by with_unfolding_all rfl)
set_option maxRecDepth 20000 in
theorem b_56_88 {d nS : Nat} {x1 x2 x3 s1 : Int32} {M : am_M} {Q : Option Value → am_H → Prop} : am_Wp (d + 1) 56 88 [.ref 187, .int x1, .int x2, .int x3] [.int s1, .ref 188] (hp nS M) Q = am_Wp d 28 0 [.ref 188, .int s1] [] (hp nS M) (fun v h1 => am_Wp (d + 1) 56 91 [.ref 187, .int x1, .int x2, .int x3] (am_ans v []) h1 Q) := by
  exact eq_call2 (e := (.invokevirtual 169, 3, 0, 28, 131)) (as := [.ref 188, .int s1]) (r := []) (n := 2) (m := 2) (by with_unfolding_all rfl) rfl (by decide) (by with_unfolding_all rfl) (by decide) (by with_unfolding_all rfl) ⟨fun _ => am_rec_ok (c := 5) (by with_unfolding_all rfl) (by decide +kernel), fun z => by simp at z⟩
set_option maxRecDepth 20000 in
theorem b_56_91 {d nS : Nat} {x1 x2 x3 : Int32} {M : am_M} {Q : Option Value → am_H → Prop} : am_Wp d 56 91 [.ref 187, .int x1, .int x2, .int x3] [] (hp nS M) Q = Q (some (.int 1)) (hp nS (am_up M 187 10 ((M 187 10) + 1))) := by
  refine (eq_run 7 (q := (102, [.ref 187, .int x1, .int x2, .int x3], [.int 1], hp nS (am_up M 187 10 ((M 187 10) + 1)))) (by with_unfolding_all rfl)).trans ?_
  exact eq_retI2 (e := (.ireturn, 1, 0, 0, 0)) (t := .boolean) (by with_unfolding_all rfl) rfl (by with_unfolding_all rfl) rfl
-- LarkExchange$Reader readsChoice(I)Z (57, (187, None))
set_option maxRecDepth 20000 in
theorem b_57_0 {d nS : Nat} {x1 : Int32} {M : am_M} {Q : Option Value → am_H → Prop} : am_Wp (d + 1) 57 0 [.ref 187, .int x1, .retAddr 0, .retAddr 0, .retAddr 0] [] (hp nS M) Q = am_Wp d 58 0 [.ref 187, .int x1, .retAddr 0, .retAddr 0] [] (hp nS M) (fun v h1 => am_Wp (d + 1) 57 7 [.ref 187, .int x1, .int 0, .retAddr 0, .retAddr 0] (am_ans v []) h1 Q) := by
  refine (eq_run 4 (q := (4, [.ref 187, .int x1, .int 0, .retAddr 0, .retAddr 0], [.int x1, .ref 187], hp nS M)) (by with_unfolding_all rfl)).trans ?_
  exact eq_call2 (e := (.invokevirtual 166, 3, 0, 58, 130)) (as := [.ref 187, .int x1]) (r := []) (n := 2) (m := 4) (by with_unfolding_all rfl) rfl (by decide) (by with_unfolding_all rfl) (by decide) (by with_unfolding_all rfl) ⟨fun _ => am_rec_ok (c := 8) (by with_unfolding_all rfl) (by decide +kernel), fun z => by simp at z⟩
set_option maxRecDepth 20000 in
theorem b_57_7 {d nS : Nat} {x1 x2 s0 : Int32} {M : am_M} {Q : Option Value → am_H → Prop} : am_Wp d 57 7 [.ref 187, .int x1, .int x2, .retAddr 0, .retAddr 0] [.int s0] (hp nS M) Q = if ¬ s0 = 0 then am_Wp d 57 12 [.ref 187, .int x1, .int x2, .retAddr 0, .retAddr 0] [] (hp nS M) Q else am_Wp d 57 10 [.ref 187, .int x1, .int x2, .retAddr 0, .retAddr 0] [] (hp nS M) Q := by
  exact eq_if_ne (by with_unfolding_all rfl)
set_option maxRecDepth 20000 in
theorem b_57_10 {d nS : Nat} {x1 x2 : Int32} {M : am_M} {Q : Option Value → am_H → Prop} : am_Wp d 57 10 [.ref 187, .int x1, .int x2, .retAddr 0, .retAddr 0] [] (hp nS M) Q = Q (some (.int 0)) (hp nS M) := by
  refine (eq_run 1 (q := (11, [.ref 187, .int x1, .int x2, .retAddr 0, .retAddr 0], [.int 0], hp nS M)) (by with_unfolding_all rfl)).trans ?_
  exact eq_retI2 (e := (.ireturn, 1, 0, 0, 0)) (t := .boolean) (by with_unfolding_all rfl) rfl (by with_unfolding_all rfl) rfl
set_option maxRecDepth 20000 in
theorem b_57_12 {d nS : Nat} {x1 x2 : Int32} {M : am_M} {Q : Option Value → am_H → Prop} : am_Wp d 57 12 [.ref 187, .int x1, .int x2, .retAddr 0, .retAddr 0] [] (hp nS M) Q = am_Wp d 57 14 [.ref 187, .int x1, .int x2, .int 0, .retAddr 0] [] (hp nS M) Q := by
  exact eq_run 2 (q := (14, [.ref 187, .int x1, .int x2, .int 0, .retAddr 0], [], hp nS M)) (by with_unfolding_all rfl)
set_option maxRecDepth 20000 in
theorem b_57_14 {d nS : Nat} {x1 x2 x3 : Int32} {zx4 : Value} {M : am_M} {Q : Option Value → am_H → Prop} : am_Wp d 57 14 [.ref 187, .int x1, .int x2, .int x3, zx4] [] (hp nS M) Q = if 400 ≤ x3 then am_Wp d 57 108 [.ref 187, .int x1, .int x2, .int x3, zx4] [] (hp nS M) Q else am_Wp d 57 21 [.ref 187, .int x1, .int x2, .int x3, zx4] [] (hp nS M) Q := by
  refine (eq_run 2 (q := (18, [.ref 187, .int x1, .int x2, .int x3, zx4], [.int 400, .int x3], hp nS M)) (by with_unfolding_all rfl)).trans ?_
  exact eq_cmp_ge (by with_unfolding_all rfl)
set_option maxRecDepth 20000 in
theorem b_57_21 {d nS : Nat} {x1 x2 x3 : Int32} {zx4 : Value} {M : am_M} {Q : Option Value → am_H → Prop} : am_Wp (d + 1) 57 21 [.ref 187, .int x1, .int x2, .int x3, zx4] [] (hp nS M) Q = am_Wp d 51 0 [.ref 187] [] (hp nS M) (fun v h1 => am_Wp (d + 1) 57 25 [.ref 187, .int x1, .int x2, .int x3, zx4] (am_ans v []) h1 Q) := by
  refine (eq_run 1 (q := (22, [.ref 187, .int x1, .int x2, .int x3, zx4], [.ref 187], hp nS M)) (by with_unfolding_all rfl)).trans ?_
  exact eq_call2 (e := (.invokevirtual 60, 3, 0, 51, 105)) (as := [.ref 187]) (r := []) (n := 1) (m := 1) (by with_unfolding_all rfl) rfl (by decide) (by with_unfolding_all rfl) (by decide) (by with_unfolding_all rfl) ⟨fun _ => am_rec_ok (c := 8) (by with_unfolding_all rfl) (by decide +kernel), fun z => by simp at z⟩
set_option maxRecDepth 20000 in
theorem b_57_25 {d nS : Nat} {x1 x2 x3 s0 : Int32} {zx4 : Value} {M : am_M} {Q : Option Value → am_H → Prop} : am_Wp d 57 25 [.ref 187, .int x1, .int x2, .int x3, zx4] [.int s0] (hp nS M) Q = if s0 = 5 then am_Wp d 57 48 [.ref 187, .int x1, .int x2, .int x3, .int s0] [] (hp nS M) Q else am_Wp d 57 33 [.ref 187, .int x1, .int x2, .int x3, .int s0] [] (hp nS M) Q := by
  refine (eq_run 3 (q := (30, [.ref 187, .int x1, .int x2, .int x3, .int s0], [.int 5, .int s0], hp nS M)) (by with_unfolding_all rfl)).trans ?_
  exact eq_cmp_eq (by with_unfolding_all rfl)
set_option maxRecDepth 20000 in
theorem b_57_33 {d nS : Nat} {x1 x2 x3 x4 : Int32} {M : am_M} {Q : Option Value → am_H → Prop} : am_Wp d 57 33 [.ref 187, .int x1, .int x2, .int x3, .int x4] [] (hp nS M) Q = if x2 = 0 then am_Wp d 57 48 [.ref 187, .int x1, .int x2, .int x3, .int x4] [] (hp nS M) Q else am_Wp d 57 37 [.ref 187, .int x1, .int x2, .int x3, .int x4] [] (hp nS M) Q := by
  refine (eq_run 1 (q := (34, [.ref 187, .int x1, .int x2, .int x3, .int x4], [.int x2], hp nS M)) (by with_unfolding_all rfl)).trans ?_
  exact eq_if_eq (by with_unfolding_all rfl)
set_option maxRecDepth 20000 in
theorem b_57_37 {d nS : Nat} {x1 x2 x3 x4 : Int32} {M : am_M} {Q : Option Value → am_H → Prop} : am_Wp (d + 1) 57 37 [.ref 187, .int x1, .int x2, .int x3, .int x4] [] (hp nS M) Q = am_Wp d 28 0 [.ref 188, .int (-5)] [] (hp nS M) (fun v h1 => am_Wp (d + 1) 57 46 [.ref 187, .int x1, .int x2, .int x3, .int x4] (am_ans v []) h1 Q) := by
  refine (eq_run 3 (q := (43, [.ref 187, .int x1, .int x2, .int x3, .int x4], [.int (-5), .ref 188], hp nS M)) (by with_unfolding_all rfl)).trans ?_
  exact eq_call2 (e := (.invokevirtual 169, 3, 0, 28, 131)) (as := [.ref 188, .int (-5)]) (r := []) (n := 2) (m := 2) (by with_unfolding_all rfl) rfl (by decide) (by with_unfolding_all rfl) (by decide) (by with_unfolding_all rfl) ⟨fun _ => am_rec_ok (c := 5) (by with_unfolding_all rfl) (by decide +kernel), fun z => by simp at z⟩
set_option maxRecDepth 20000 in
theorem b_57_46 {d nS : Nat} {x1 x2 x3 x4 : Int32} {M : am_M} {Q : Option Value → am_H → Prop} : am_Wp d 57 46 [.ref 187, .int x1, .int x2, .int x3, .int x4] [] (hp nS M) Q = am_Wp d 57 48 [.ref 187, .int x1, .int 0, .int x3, .int x4] [] (hp nS M) Q := by
  exact eq_run 2 (q := (48, [.ref 187, .int x1, .int 0, .int x3, .int x4], [], hp nS M)) (by with_unfolding_all rfl)
set_option maxRecDepth 20000 in
theorem b_57_48 {d nS : Nat} {x1 x2 x3 x4 : Int32} {M : am_M} {Q : Option Value → am_H → Prop} : am_Wp d 57 48 [.ref 187, .int x1, .int x2, .int x3, .int x4] [] (hp nS M) Q = if x4 = 5 then am_Wp d 57 62 [.ref 187, .int x1, .int x2, .int x3, .int x4] [] (hp nS M) Q else am_Wp d 57 54 [.ref 187, .int x1, .int x2, .int x3, .int x4] [] (hp nS M) Q := by
  refine (eq_run 2 (q := (51, [.ref 187, .int x1, .int x2, .int x3, .int x4], [.int 5, .int x4], hp nS M)) (by with_unfolding_all rfl)).trans ?_
  exact eq_cmp_eq (by with_unfolding_all rfl)
set_option maxRecDepth 20000 in
theorem b_57_54 {d nS : Nat} {x1 x2 x3 x4 : Int32} {M : am_M} {Q : Option Value → am_H → Prop} : am_Wp d 57 54 [.ref 187, .int x1, .int x2, .int x3, .int x4] [] (hp nS M) Q = if x4 = 4 then am_Wp d 57 62 [.ref 187, .int x1, .int x2, .int x3, .int x4] [] (hp nS M) Q else am_Wp d 57 60 [.ref 187, .int x1, .int x2, .int x3, .int x4] [] (hp nS M) Q := by
  refine (eq_run 2 (q := (57, [.ref 187, .int x1, .int x2, .int x3, .int x4], [.int 4, .int x4], hp nS M)) (by with_unfolding_all rfl)).trans ?_
  exact eq_cmp_eq (by with_unfolding_all rfl)
set_option maxRecDepth 20000 in
theorem b_57_60 {d nS : Nat} {x1 x2 x3 x4 : Int32} {M : am_M} {Q : Option Value → am_H → Prop} : am_Wp d 57 60 [.ref 187, .int x1, .int x2, .int x3, .int x4] [] (hp nS M) Q = Q (some (.int 1)) (hp nS M) := by
  refine (eq_run 1 (q := (61, [.ref 187, .int x1, .int x2, .int x3, .int x4], [.int 1], hp nS M)) (by with_unfolding_all rfl)).trans ?_
  exact eq_retI2 (e := (.ireturn, 1, 0, 0, 0)) (t := .boolean) (by with_unfolding_all rfl) rfl (by with_unfolding_all rfl) rfl
set_option maxRecDepth 20000 in
theorem b_57_62 {d nS : Nat} {x1 x2 x3 x4 : Int32} {M : am_M} {Q : Option Value → am_H → Prop} : am_Wp (d + 1) 57 62 [.ref 187, .int x1, .int x2, .int x3, .int x4] [] (hp nS M) Q = am_Wp d 58 0 [.ref 187, .int x1, .retAddr 0, .retAddr 0] [] (hp nS (am_up M 187 10 ((M 187 10) + 1))) (fun v h1 => am_Wp (d + 1) 57 77 [.ref 187, .int x1, .int x2, .int x3, .int x4] (am_ans v []) h1 Q) := by
  refine (eq_run 8 (q := (74, [.ref 187, .int x1, .int x2, .int x3, .int x4], [.int x1, .ref 187], hp nS (am_up M 187 10 ((M 187 10) + 1)))) (by with_unfolding_all rfl)).trans ?_
  exact eq_call2 (e := (.invokevirtual 166, 3, 0, 58, 130)) (as := [.ref 187, .int x1]) (r := []) (n := 2) (m := 4) (by with_unfolding_all rfl) rfl (by decide) (by with_unfolding_all rfl) (by decide) (by with_unfolding_all rfl) ⟨fun _ => am_rec_ok (c := 8) (by with_unfolding_all rfl) (by decide +kernel), fun z => by simp at z⟩
set_option maxRecDepth 20000 in
theorem b_57_77 {d nS : Nat} {x1 x2 x3 x4 s0 : Int32} {M : am_M} {Q : Option Value → am_H → Prop} : am_Wp d 57 77 [.ref 187, .int x1, .int x2, .int x3, .int x4] [.int s0] (hp nS M) Q = if ¬ s0 = 0 then am_Wp d 57 82 [.ref 187, .int x1, .int x2, .int x3, .int x4] [] (hp nS M) Q else am_Wp d 57 80 [.ref 187, .int x1, .int x2, .int x3, .int x4] [] (hp nS M) Q := by
  exact eq_if_ne (by with_unfolding_all rfl)
set_option maxRecDepth 20000 in
theorem b_57_80 {d nS : Nat} {x1 x2 x3 x4 : Int32} {M : am_M} {Q : Option Value → am_H → Prop} : am_Wp d 57 80 [.ref 187, .int x1, .int x2, .int x3, .int x4] [] (hp nS M) Q = Q (some (.int 0)) (hp nS M) := by
  refine (eq_run 1 (q := (81, [.ref 187, .int x1, .int x2, .int x3, .int x4], [.int 0], hp nS M)) (by with_unfolding_all rfl)).trans ?_
  exact eq_retI2 (e := (.ireturn, 1, 0, 0, 0)) (t := .boolean) (by with_unfolding_all rfl) rfl (by with_unfolding_all rfl) rfl
set_option maxRecDepth 20000 in
theorem b_57_82 {d nS : Nat} {x1 x2 x3 x4 : Int32} {M : am_M} {Q : Option Value → am_H → Prop} : am_Wp d 57 82 [.ref 187, .int x1, .int x2, .int x3, .int x4] [] (hp nS M) Q = if ¬ x4 = 5 then am_Wp d 57 100 [.ref 187, .int x1, .int x2, .int x3, .int x4] [] (hp nS M) Q else am_Wp d 57 88 [.ref 187, .int x1, .int x2, .int x3, .int x4] [] (hp nS M) Q := by
  refine (eq_run 2 (q := (85, [.ref 187, .int x1, .int x2, .int x3, .int x4], [.int 5, .int x4], hp nS M)) (by with_unfolding_all rfl)).trans ?_
  exact eq_cmp_ne (by with_unfolding_all rfl)
set_option maxRecDepth 20000 in
theorem b_57_88 {d nS : Nat} {x1 x2 x3 x4 : Int32} {M : am_M} {Q : Option Value → am_H → Prop} : am_Wp (d + 1) 57 88 [.ref 187, .int x1, .int x2, .int x3, .int x4] [] (hp nS M) Q = am_Wp d 28 0 [.ref 188, .int (-6)] [] (hp nS M) (fun v h1 => am_Wp (d + 1) 57 97 [.ref 187, .int x1, .int x2, .int x3, .int x4] (am_ans v []) h1 Q) := by
  refine (eq_run 3 (q := (94, [.ref 187, .int x1, .int x2, .int x3, .int x4], [.int (-6), .ref 188], hp nS M)) (by with_unfolding_all rfl)).trans ?_
  exact eq_call2 (e := (.invokevirtual 169, 3, 0, 28, 131)) (as := [.ref 188, .int (-6)]) (r := []) (n := 2) (m := 2) (by with_unfolding_all rfl) rfl (by decide) (by with_unfolding_all rfl) (by decide) (by with_unfolding_all rfl) ⟨fun _ => am_rec_ok (c := 5) (by with_unfolding_all rfl) (by decide +kernel), fun z => by simp at z⟩
set_option maxRecDepth 20000 in
theorem b_57_97 {d nS : Nat} {x1 x2 x3 x4 : Int32} {M : am_M} {Q : Option Value → am_H → Prop} : am_Wp d 57 97 [.ref 187, .int x1, .int x2, .int x3, .int x4] [] (hp nS M) Q = am_Wp d 57 102 [.ref 187, .int x1, .int x2, .int x3, .int x4] [] (hp nS M) Q := by
  exact eq_run 1 (q := (102, [.ref 187, .int x1, .int x2, .int x3, .int x4], [], hp nS M)) (by with_unfolding_all rfl)
set_option maxRecDepth 20000 in
theorem b_57_100 {d nS : Nat} {x1 x2 x3 x4 : Int32} {M : am_M} {Q : Option Value → am_H → Prop} : am_Wp d 57 100 [.ref 187, .int x1, .int x2, .int x3, .int x4] [] (hp nS M) Q = am_Wp d 57 102 [.ref 187, .int x1, .int 1, .int x3, .int x4] [] (hp nS M) Q := by
  exact eq_run 2 (q := (102, [.ref 187, .int x1, .int 1, .int x3, .int x4], [], hp nS M)) (by with_unfolding_all rfl)
set_option maxRecDepth 20000 in
theorem b_57_102 {d nS : Nat} {x1 x2 x3 x4 : Int32} {M : am_M} {Q : Option Value → am_H → Prop} : am_Wp d 57 102 [.ref 187, .int x1, .int x2, .int x3, .int x4] [] (hp nS M) Q = am_Wp d 57 14 [.ref 187, .int x1, .int x2, .int (x3 + 1), .int x4] [] (hp nS M) Q := by
  exact eq_run 2 (q := (14, [.ref 187, .int x1, .int x2, .int (x3 + 1), .int x4], [], hp nS M)) (by with_unfolding_all rfl)
set_option maxRecDepth 20000 in
theorem b_57_108 {d nS : Nat} {x1 x2 x3 : Int32} {zx4 : Value} {M : am_M} {Q : Option Value → am_H → Prop} : am_Wp d 57 108 [.ref 187, .int x1, .int x2, .int x3, zx4] [] (hp nS M) Q = Q (some (.int 0)) (hp nS M) := by
  refine (eq_run 1 (q := (109, [.ref 187, .int x1, .int x2, .int x3, zx4], [.int 0], hp nS M)) (by with_unfolding_all rfl)).trans ?_
  exact eq_retI2 (e := (.ireturn, 1, 0, 0, 0)) (t := .boolean) (by with_unfolding_all rfl) rfl (by with_unfolding_all rfl) rfl
-- LarkExchange$Reader readsSingle(I)Z (58, (187, None))
set_option maxRecDepth 20000 in
theorem b_58_0 {d nS : Nat} {x1 : Int32} {M : am_M} {Q : Option Value → am_H → Prop} : am_Wp (d + 1) 58 0 [.ref 187, .int x1, .retAddr 0, .retAddr 0] [] (hp nS M) Q = am_Wp d 51 0 [.ref 187] [] (hp nS M) (fun v h1 => am_Wp (d + 1) 58 4 [.ref 187, .int x1, .retAddr 0, .retAddr 0] (am_ans v []) h1 Q) := by
  refine (eq_run 1 (q := (1, [.ref 187, .int x1, .retAddr 0, .retAddr 0], [.ref 187], hp nS M)) (by with_unfolding_all rfl)).trans ?_
  exact eq_call2 (e := (.invokevirtual 60, 3, 0, 51, 105)) (as := [.ref 187]) (r := []) (n := 1) (m := 1) (by with_unfolding_all rfl) rfl (by decide) (by with_unfolding_all rfl) (by decide) (by with_unfolding_all rfl) ⟨fun _ => am_rec_ok (c := 8) (by with_unfolding_all rfl) (by decide +kernel), fun z => by simp at z⟩
set_option maxRecDepth 20000 in
theorem b_58_4 {d nS : Nat} {x1 s0 : Int32} {M : am_M} {Q : Option Value → am_H → Prop} : am_Wp d 58 4 [.ref 187, .int x1, .retAddr 0, .retAddr 0] [.int s0] (hp nS M) Q = if s0 = 6 then am_Wp d 58 17 [.ref 187, .int x1, .int s0, .retAddr 0] [] (hp nS M) Q else am_Wp d 58 11 [.ref 187, .int x1, .int s0, .retAddr 0] [] (hp nS M) Q := by
  refine (eq_run 3 (q := (8, [.ref 187, .int x1, .int s0, .retAddr 0], [.int 6, .int s0], hp nS M)) (by with_unfolding_all rfl)).trans ?_
  exact eq_cmp_eq (by with_unfolding_all rfl)
set_option maxRecDepth 20000 in
theorem b_58_11 {d nS : Nat} {x1 x2 : Int32} {M : am_M} {Q : Option Value → am_H → Prop} : am_Wp d 58 11 [.ref 187, .int x1, .int x2, .retAddr 0] [] (hp nS M) Q = if ¬ x2 = 31 then am_Wp d 58 93 [.ref 187, .int x1, .int x2, .retAddr 0] [] (hp nS M) Q else am_Wp d 58 17 [.ref 187, .int x1, .int x2, .retAddr 0] [] (hp nS M) Q := by
  refine (eq_run 2 (q := (14, [.ref 187, .int x1, .int x2, .retAddr 0], [.int 31, .int x2], hp nS M)) (by with_unfolding_all rfl)).trans ?_
  exact eq_cmp_ne (by with_unfolding_all rfl)
set_option maxRecDepth 20000 in
theorem b_58_17 {d nS : Nat} {x1 x2 : Int32} {M : am_M} {Q : Option Value → am_H → Prop} : am_Wp d 58 17 [.ref 187, .int x1, .int x2, .retAddr 0] [] (hp nS M) Q = if x1 < 8 then am_Wp d 58 29 [.ref 187, .int x1, .int x2, .retAddr 0] [] (hp nS M) Q else am_Wp d 58 23 [.ref 187, .int x1, .int x2, .retAddr 0] [] (hp nS M) Q := by
  refine (eq_run 2 (q := (20, [.ref 187, .int x1, .int x2, .retAddr 0], [.int 8, .int x1], hp nS M)) (by with_unfolding_all rfl)).trans ?_
  exact eq_cmp_lt (by with_unfolding_all rfl)
set_option maxRecDepth 20000 in
theorem b_58_23 {d nS : Nat} {x1 x2 : Int32} {M : am_M} {Q : Option Value → am_H → Prop} : am_Wp (d + 1) 58 23 [.ref 187, .int x1, .int x2, .retAddr 0] [] (hp nS M) Q = am_Wp d 53 0 [.ref 187, .int 3] [] (hp nS M) (fun v h1 => am_Wp (d + 1) 58 28 [.ref 187, .int x1, .int x2, .retAddr 0] (am_ans v []) h1 Q) := by
  refine (eq_run 2 (q := (25, [.ref 187, .int x1, .int x2, .retAddr 0], [.int 3, .ref 187], hp nS M)) (by with_unfolding_all rfl)).trans ?_
  exact eq_call2 (e := (.invokevirtual 68, 3, 0, 53, 107)) (as := [.ref 187, .int 3]) (r := []) (n := 2) (m := 2) (by with_unfolding_all rfl) rfl (by decide) (by with_unfolding_all rfl) (by decide) (by with_unfolding_all rfl) ⟨fun _ => am_rec_ok (c := 8) (by with_unfolding_all rfl) (by decide +kernel), fun z => by simp at z⟩
set_option maxRecDepth 20000 in
theorem b_58_28 {d nS : Nat} {x1 x2 s0 : Int32} {M : am_M} {Q : Option Value → am_H → Prop} (h1 : am_rok .boolean s0 = true) : am_Wp d 58 28 [.ref 187, .int x1, .int x2, .retAddr 0] [.int s0] (hp nS M) Q = Q (some (.int s0)) (hp nS M) := by
  exact eq_retI2 (e := (.ireturn, 1, 0, 0, 0)) (t := .boolean) (by with_unfolding_all rfl) rfl (by with_unfolding_all rfl) h1
set_option maxRecDepth 20000 in
theorem b_58_29 {d nS : Nat} {x1 x2 : Int32} {M : am_M} {Q : Option Value → am_H → Prop} : am_Wp d 58 29 [.ref 187, .int x1, .int x2, .retAddr 0] [] (hp nS M) Q = if ¬ x2 = 31 then am_Wp d 58 70 [.ref 187, .int x1, .int x2, .retAddr 0] [] (hp nS (am_up M 187 10 ((M 187 10) + 1))) Q else am_Wp d 58 45 [.ref 187, .int x1, .int x2, .retAddr 0] [] (hp nS (am_up M 187 10 ((M 187 10) + 1))) Q := by
  refine (eq_run 8 (q := (42, [.ref 187, .int x1, .int x2, .retAddr 0], [.int 31, .int x2], hp nS (am_up M 187 10 ((M 187 10) + 1)))) (by with_unfolding_all rfl)).trans ?_
  exact eq_cmp_ne (by with_unfolding_all rfl)
set_option maxRecDepth 20000 in
theorem b_58_45 {d nS : Nat} {x1 x2 : Int32} {M : am_M} {Q : Option Value → am_H → Prop} : am_Wp (d + 1) 58 45 [.ref 187, .int x1, .int x2, .retAddr 0] [] (hp nS M) Q = am_Wp d 57 0 [.ref 187, .int (x1 + 1), .retAddr 0, .retAddr 0, .retAddr 0] [] (hp nS M) (fun v h1 => am_Wp (d + 1) 58 52 [.ref 187, .int x1, .int x2, .retAddr 0] (am_ans v []) h1 Q) := by
  refine (eq_run 4 (q := (49, [.ref 187, .int x1, .int x2, .retAddr 0], [.int (x1 + 1), .ref 187], hp nS M)) (by with_unfolding_all rfl)).trans ?_
  exact eq_call2 (e := (.invokevirtual 160, 3, 0, 57, 128)) (as := [.ref 187, .int (x1 + 1)]) (r := []) (n := 2) (m := 5) (by with_unfolding_all rfl) rfl (by decide) (by with_unfolding_all rfl) (by decide) (by with_unfolding_all rfl) ⟨fun _ => am_rec_ok (c := 8) (by with_unfolding_all rfl) (by decide +kernel), fun z => by simp at z⟩
set_option maxRecDepth 20000 in
theorem b_58_52 {d nS : Nat} {x1 x2 s0 : Int32} {M : am_M} {Q : Option Value → am_H → Prop} : am_Wp d 58 52 [.ref 187, .int x1, .int x2, .retAddr 0] [.int s0] (hp nS M) Q = if s0 = 0 then am_Wp d 58 68 [.ref 187, .int x1, .int x2, .retAddr 0] [] (hp nS M) Q else am_Wp d 58 55 [.ref 187, .int x1, .int x2, .retAddr 0] [] (hp nS M) Q := by
  exact eq_if_eq (by with_unfolding_all rfl)
set_option maxRecDepth 20000 in
theorem b_58_55 {d nS : Nat} {x1 x2 : Int32} {M : am_M} {Q : Option Value → am_H → Prop} : am_Wp (d + 1) 58 55 [.ref 187, .int x1, .int x2, .retAddr 0] [] (hp nS M) Q = am_Wp d 59 0 [.ref 187, .int 32] [] (hp nS M) (fun v h1 => am_Wp (d + 1) 58 61 [.ref 187, .int x1, .int x2, .retAddr 0] (am_ans v []) h1 Q) := by
  refine (eq_run 2 (q := (58, [.ref 187, .int x1, .int x2, .retAddr 0], [.int 32, .ref 187], hp nS M)) (by with_unfolding_all rfl)).trans ?_
  exact eq_call2 (e := (.invokevirtual 85, 3, 0, 59, 112)) (as := [.ref 187, .int 32]) (r := []) (n := 2) (m := 2) (by with_unfolding_all rfl) rfl (by decide) (by with_unfolding_all rfl) (by decide) (by with_unfolding_all rfl) ⟨fun _ => am_rec_ok (c := 8) (by with_unfolding_all rfl) (by decide +kernel), fun z => by simp at z⟩
set_option maxRecDepth 20000 in
theorem b_58_61 {d nS : Nat} {x1 x2 s0 : Int32} {M : am_M} {Q : Option Value → am_H → Prop} : am_Wp d 58 61 [.ref 187, .int x1, .int x2, .retAddr 0] [.int s0] (hp nS M) Q = if s0 = 0 then am_Wp d 58 68 [.ref 187, .int x1, .int x2, .retAddr 0] [] (hp nS M) Q else am_Wp d 58 64 [.ref 187, .int x1, .int x2, .retAddr 0] [] (hp nS M) Q := by
  exact eq_if_eq (by with_unfolding_all rfl)
set_option maxRecDepth 20000 in
theorem b_58_64 {d nS : Nat} {x1 x2 : Int32} {M : am_M} {Q : Option Value → am_H → Prop} : am_Wp d 58 64 [.ref 187, .int x1, .int x2, .retAddr 0] [] (hp nS M) Q = am_Wp d 58 69 [.ref 187, .int x1, .int x2, .retAddr 0] [.int 1] (hp nS M) Q := by
  exact eq_run 2 (q := (69, [.ref 187, .int x1, .int x2, .retAddr 0], [.int 1], hp nS M)) (by with_unfolding_all rfl)
set_option maxRecDepth 20000 in
theorem b_58_68 {d nS : Nat} {x1 x2 : Int32} {M : am_M} {Q : Option Value → am_H → Prop} : am_Wp d 58 68 [.ref 187, .int x1, .int x2, .retAddr 0] [] (hp nS M) Q = am_Wp d 58 69 [.ref 187, .int x1, .int x2, .retAddr 0] [.int 0] (hp nS M) Q := by
  exact eq_run 1 (q := (69, [.ref 187, .int x1, .int x2, .retAddr 0], [.int 0], hp nS M)) (by with_unfolding_all rfl)
set_option maxRecDepth 20000 in
theorem b_58_69 {d nS : Nat} {x1 x2 s0 : Int32} {M : am_M} {Q : Option Value → am_H → Prop} (h1 : am_rok .boolean s0 = true) : am_Wp d 58 69 [.ref 187, .int x1, .int x2, .retAddr 0] [.int s0] (hp nS M) Q = Q (some (.int s0)) (hp nS M) := by
  exact eq_retI2 (e := (.ireturn, 1, 0, 0, 0)) (t := .boolean) (by with_unfolding_all rfl) rfl (by with_unfolding_all rfl) h1
set_option maxRecDepth 20000 in
theorem b_58_70 {d nS : Nat} {x1 x2 : Int32} {M : am_M} {Q : Option Value → am_H → Prop} : am_Wp (d + 1) 58 70 [.ref 187, .int x1, .int x2, .retAddr 0] [] (hp nS M) Q = am_Wp d 58 0 [.ref 187, .int (x1 + 1), .retAddr 0, .retAddr 0] [] (hp nS M) (fun v h1 => am_Wp (d + 1) 58 77 [.ref 187, .int x1, .int x2, .retAddr 0] (am_ans v []) h1 Q) := by
  refine (eq_run 4 (q := (74, [.ref 187, .int x1, .int x2, .retAddr 0], [.int (x1 + 1), .ref 187], hp nS M)) (by with_unfolding_all rfl)).trans ?_
  exact eq_call2 (e := (.invokevirtual 166, 3, 0, 58, 130)) (as := [.ref 187, .int (x1 + 1)]) (r := []) (n := 2) (m := 4) (by with_unfolding_all rfl) rfl (by decide) (by with_unfolding_all rfl) (by decide) (by with_unfolding_all rfl) ⟨fun _ => am_rec_ok (c := 8) (by with_unfolding_all rfl) (by decide +kernel), fun z => by simp at z⟩
set_option maxRecDepth 20000 in
theorem b_58_77 {d nS : Nat} {x1 x2 s0 : Int32} {M : am_M} {Q : Option Value → am_H → Prop} : am_Wp d 58 77 [.ref 187, .int x1, .int x2, .retAddr 0] [.int s0] (hp nS M) Q = if ¬ s0 = 0 then am_Wp d 58 82 [.ref 187, .int x1, .int x2, .retAddr 0] [] (hp nS M) Q else am_Wp d 58 80 [.ref 187, .int x1, .int x2, .retAddr 0] [] (hp nS M) Q := by
  exact eq_if_ne (by with_unfolding_all rfl)
set_option maxRecDepth 20000 in
theorem b_58_80 {d nS : Nat} {x1 x2 : Int32} {M : am_M} {Q : Option Value → am_H → Prop} : am_Wp d 58 80 [.ref 187, .int x1, .int x2, .retAddr 0] [] (hp nS M) Q = Q (some (.int 0)) (hp nS M) := by
  refine (eq_run 1 (q := (81, [.ref 187, .int x1, .int x2, .retAddr 0], [.int 0], hp nS M)) (by with_unfolding_all rfl)).trans ?_
  exact eq_retI2 (e := (.ireturn, 1, 0, 0, 0)) (t := .boolean) (by with_unfolding_all rfl) rfl (by with_unfolding_all rfl) rfl
set_option maxRecDepth 20000 in
theorem b_58_82 {d nS : Nat} {x1 x2 : Int32} {M : am_M} {Q : Option Value → am_H → Prop} : am_Wp (d + 1) 58 82 [.ref 187, .int x1, .int x2, .retAddr 0] [] (hp nS M) Q = am_Wp d 28 0 [.ref 188, .int (-7)] [] (hp nS M) (fun v h1 => am_Wp (d + 1) 58 91 [.ref 187, .int x1, .int x2, .retAddr 0] (am_ans v []) h1 Q) := by
  refine (eq_run 3 (q := (88, [.ref 187, .int x1, .int x2, .retAddr 0], [.int (-7), .ref 188], hp nS M)) (by with_unfolding_all rfl)).trans ?_
  exact eq_call2 (e := (.invokevirtual 169, 3, 0, 28, 131)) (as := [.ref 188, .int (-7)]) (r := []) (n := 2) (m := 2) (by with_unfolding_all rfl) rfl (by decide) (by with_unfolding_all rfl) (by decide) (by with_unfolding_all rfl) ⟨fun _ => am_rec_ok (c := 5) (by with_unfolding_all rfl) (by decide +kernel), fun z => by simp at z⟩
set_option maxRecDepth 20000 in
theorem b_58_91 {d nS : Nat} {x1 x2 : Int32} {M : am_M} {Q : Option Value → am_H → Prop} : am_Wp d 58 91 [.ref 187, .int x1, .int x2, .retAddr 0] [] (hp nS M) Q = Q (some (.int 1)) (hp nS M) := by
  refine (eq_run 1 (q := (92, [.ref 187, .int x1, .int x2, .retAddr 0], [.int 1], hp nS M)) (by with_unfolding_all rfl)).trans ?_
  exact eq_retI2 (e := (.ireturn, 1, 0, 0, 0)) (t := .boolean) (by with_unfolding_all rfl) rfl (by with_unfolding_all rfl) rfl
set_option maxRecDepth 20000 in
theorem b_58_93 {d nS : Nat} {x1 x2 : Int32} {M : am_M} {Q : Option Value → am_H → Prop} : am_Wp (d + 1) 58 93 [.ref 187, .int x1, .int x2, .retAddr 0] [] (hp nS M) Q = am_Wp d 55 0 [.ref 187, .retAddr 0, .retAddr 0, .retAddr 0, .retAddr 0] [] (hp nS M) (fun v h1 => am_Wp (d + 1) 58 97 [.ref 187, .int x1, .int x2, .retAddr 0] (am_ans v []) h1 Q) := by
  refine (eq_run 1 (q := (94, [.ref 187, .int x1, .int x2, .retAddr 0], [.ref 187], hp nS M)) (by with_unfolding_all rfl)).trans ?_
  exact eq_call2 (e := (.invokevirtual 154, 3, 0, 55, 126)) (as := [.ref 187]) (r := []) (n := 1) (m := 5) (by with_unfolding_all rfl) rfl (by decide) (by with_unfolding_all rfl) (by decide) (by with_unfolding_all rfl) ⟨fun _ => am_rec_ok (c := 8) (by with_unfolding_all rfl) (by decide +kernel), fun z => by simp at z⟩
set_option maxRecDepth 20000 in
theorem b_58_97 {d nS : Nat} {x1 x2 s0 : Int32} {M : am_M} {Q : Option Value → am_H → Prop} : am_Wp d 58 97 [.ref 187, .int x1, .int x2, .retAddr 0] [.int s0] (hp nS M) Q = if ¬ s0 = 0 then am_Wp d 58 102 [.ref 187, .int x1, .int x2, .retAddr 0] [] (hp nS M) Q else am_Wp d 58 100 [.ref 187, .int x1, .int x2, .retAddr 0] [] (hp nS M) Q := by
  exact eq_if_ne (by with_unfolding_all rfl)
set_option maxRecDepth 20000 in
theorem b_58_100 {d nS : Nat} {x1 x2 : Int32} {M : am_M} {Q : Option Value → am_H → Prop} : am_Wp d 58 100 [.ref 187, .int x1, .int x2, .retAddr 0] [] (hp nS M) Q = Q (some (.int 0)) (hp nS M) := by
  refine (eq_run 1 (q := (101, [.ref 187, .int x1, .int x2, .retAddr 0], [.int 0], hp nS M)) (by with_unfolding_all rfl)).trans ?_
  exact eq_retI2 (e := (.ireturn, 1, 0, 0, 0)) (t := .boolean) (by with_unfolding_all rfl) rfl (by with_unfolding_all rfl) rfl
set_option maxRecDepth 20000 in
theorem b_58_102 {d nS : Nat} {x1 x2 : Int32} {M : am_M} {Q : Option Value → am_H → Prop} : am_Wp (d + 1) 58 102 [.ref 187, .int x1, .int x2, .retAddr 0] [] (hp nS M) Q = am_Wp d 51 0 [.ref 187] [] (hp nS M) (fun v h1 => am_Wp (d + 1) 58 106 [.ref 187, .int x1, .int x2, .retAddr 0] (am_ans v []) h1 Q) := by
  refine (eq_run 1 (q := (103, [.ref 187, .int x1, .int x2, .retAddr 0], [.ref 187], hp nS M)) (by with_unfolding_all rfl)).trans ?_
  exact eq_call2 (e := (.invokevirtual 60, 3, 0, 51, 105)) (as := [.ref 187]) (r := []) (n := 1) (m := 1) (by with_unfolding_all rfl) rfl (by decide) (by with_unfolding_all rfl) (by decide) (by with_unfolding_all rfl) ⟨fun _ => am_rec_ok (c := 8) (by with_unfolding_all rfl) (by decide +kernel), fun z => by simp at z⟩
set_option maxRecDepth 20000 in
theorem b_58_106 {d nS : Nat} {x1 x2 s0 : Int32} {M : am_M} {Q : Option Value → am_H → Prop} : am_Wp d 58 106 [.ref 187, .int x1, .int x2, .retAddr 0] [.int s0] (hp nS M) Q = if s0 = 33 then am_Wp d 58 131 [.ref 187, .int x1, .int x2, .int s0] [] (hp nS M) Q else am_Wp d 58 113 [.ref 187, .int x1, .int x2, .int s0] [] (hp nS M) Q := by
  refine (eq_run 3 (q := (110, [.ref 187, .int x1, .int x2, .int s0], [.int 33, .int s0], hp nS M)) (by with_unfolding_all rfl)).trans ?_
  exact eq_cmp_eq (by with_unfolding_all rfl)
set_option maxRecDepth 20000 in
theorem b_58_113 {d nS : Nat} {x1 x2 x3 : Int32} {M : am_M} {Q : Option Value → am_H → Prop} : am_Wp d 58 113 [.ref 187, .int x1, .int x2, .int x3] [] (hp nS M) Q = if x3 = 34 then am_Wp d 58 131 [.ref 187, .int x1, .int x2, .int x3] [] (hp nS M) Q else am_Wp d 58 119 [.ref 187, .int x1, .int x2, .int x3] [] (hp nS M) Q := by
  refine (eq_run 2 (q := (116, [.ref 187, .int x1, .int x2, .int x3], [.int 34, .int x3], hp nS M)) (by with_unfolding_all rfl)).trans ?_
  exact eq_cmp_eq (by with_unfolding_all rfl)
set_option maxRecDepth 20000 in
theorem b_58_119 {d nS : Nat} {x1 x2 x3 : Int32} {M : am_M} {Q : Option Value → am_H → Prop} : am_Wp d 58 119 [.ref 187, .int x1, .int x2, .int x3] [] (hp nS M) Q = if x3 = 35 then am_Wp d 58 131 [.ref 187, .int x1, .int x2, .int x3] [] (hp nS M) Q else am_Wp d 58 125 [.ref 187, .int x1, .int x2, .int x3] [] (hp nS M) Q := by
  refine (eq_run 2 (q := (122, [.ref 187, .int x1, .int x2, .int x3], [.int 35, .int x3], hp nS M)) (by with_unfolding_all rfl)).trans ?_
  exact eq_cmp_eq (by with_unfolding_all rfl)
set_option maxRecDepth 20000 in
theorem b_58_125 {d nS : Nat} {x1 x2 x3 : Int32} {M : am_M} {Q : Option Value → am_H → Prop} : am_Wp (d + 1) 58 125 [.ref 187, .int x1, .int x2, .int x3] [] (hp nS M) Q = am_Wp d 53 0 [.ref 187, .int 1] [] (hp nS M) (fun v h1 => am_Wp (d + 1) 58 130 [.ref 187, .int x1, .int x2, .int x3] (am_ans v []) h1 Q) := by
  refine (eq_run 2 (q := (127, [.ref 187, .int x1, .int x2, .int x3], [.int 1, .ref 187], hp nS M)) (by with_unfolding_all rfl)).trans ?_
  exact eq_call2 (e := (.invokevirtual 68, 3, 0, 53, 107)) (as := [.ref 187, .int 1]) (r := []) (n := 2) (m := 2) (by with_unfolding_all rfl) rfl (by decide) (by with_unfolding_all rfl) (by decide) (by with_unfolding_all rfl) ⟨fun _ => am_rec_ok (c := 8) (by with_unfolding_all rfl) (by decide +kernel), fun z => by simp at z⟩
set_option maxRecDepth 20000 in
theorem b_58_130 {d nS : Nat} {x1 x2 x3 s0 : Int32} {M : am_M} {Q : Option Value → am_H → Prop} (h1 : am_rok .boolean s0 = true) : am_Wp d 58 130 [.ref 187, .int x1, .int x2, .int x3] [.int s0] (hp nS M) Q = Q (some (.int s0)) (hp nS M) := by
  exact eq_retI2 (e := (.ireturn, 1, 0, 0, 0)) (t := .boolean) (by with_unfolding_all rfl) rfl (by with_unfolding_all rfl) h1
set_option maxRecDepth 20000 in
theorem b_58_131 {d nS : Nat} {x1 x2 x3 : Int32} {M : am_M} {Q : Option Value → am_H → Prop} : am_Wp (d + 1) 58 131 [.ref 187, .int x1, .int x2, .int x3] [] (hp nS M) Q = am_Wp d 55 0 [.ref 187, .retAddr 0, .retAddr 0, .retAddr 0, .retAddr 0] [] (hp nS (am_up M 187 10 ((M 187 10) + 1))) (fun v h1 => am_Wp (d + 1) 58 145 [.ref 187, .int x1, .int x2, .int x3] (am_ans v []) h1 Q) := by
  refine (eq_run 7 (q := (142, [.ref 187, .int x1, .int x2, .int x3], [.ref 187], hp nS (am_up M 187 10 ((M 187 10) + 1)))) (by with_unfolding_all rfl)).trans ?_
  exact eq_call2 (e := (.invokevirtual 154, 3, 0, 55, 126)) (as := [.ref 187]) (r := []) (n := 1) (m := 5) (by with_unfolding_all rfl) rfl (by decide) (by with_unfolding_all rfl) (by decide) (by with_unfolding_all rfl) ⟨fun _ => am_rec_ok (c := 8) (by with_unfolding_all rfl) (by decide +kernel), fun z => by simp at z⟩
set_option maxRecDepth 20000 in
theorem b_58_145 {d nS : Nat} {x1 x2 x3 s0 : Int32} {M : am_M} {Q : Option Value → am_H → Prop} : am_Wp d 58 145 [.ref 187, .int x1, .int x2, .int x3] [.int s0] (hp nS M) Q = if ¬ s0 = 0 then am_Wp d 58 150 [.ref 187, .int x1, .int x2, .int x3] [] (hp nS M) Q else am_Wp d 58 148 [.ref 187, .int x1, .int x2, .int x3] [] (hp nS M) Q := by
  exact eq_if_ne (by with_unfolding_all rfl)
set_option maxRecDepth 20000 in
theorem b_58_148 {d nS : Nat} {x1 x2 x3 : Int32} {M : am_M} {Q : Option Value → am_H → Prop} : am_Wp d 58 148 [.ref 187, .int x1, .int x2, .int x3] [] (hp nS M) Q = Q (some (.int 0)) (hp nS M) := by
  refine (eq_run 1 (q := (149, [.ref 187, .int x1, .int x2, .int x3], [.int 0], hp nS M)) (by with_unfolding_all rfl)).trans ?_
  exact eq_retI2 (e := (.ireturn, 1, 0, 0, 0)) (t := .boolean) (by with_unfolding_all rfl) rfl (by with_unfolding_all rfl) rfl
set_option maxRecDepth 20000 in
theorem b_58_150 {d nS : Nat} {x1 x2 x3 : Int32} {M : am_M} {Q : Option Value → am_H → Prop} : am_Wp (d + 1) 58 150 [.ref 187, .int x1, .int x2, .int x3] [] (hp nS M) Q = am_Wp d 28 0 [.ref 188, .int (x3 ^^^ (-1))] [] (hp nS M) (fun v h1 => am_Wp (d + 1) 58 160 [.ref 187, .int x1, .int x2, .int x3] (am_ans v []) h1 Q) := by
  refine (eq_run 5 (q := (157, [.ref 187, .int x1, .int x2, .int x3], [.int (x3 ^^^ (-1)), .ref 188], hp nS M)) (by with_unfolding_all rfl)).trans ?_
  exact eq_call2 (e := (.invokevirtual 169, 3, 0, 28, 131)) (as := [.ref 188, .int (x3 ^^^ (-1))]) (r := []) (n := 2) (m := 2) (by with_unfolding_all rfl) rfl (by decide) (by with_unfolding_all rfl) (by decide) (by with_unfolding_all rfl) ⟨fun _ => am_rec_ok (c := 5) (by with_unfolding_all rfl) (by decide +kernel), fun z => by simp at z⟩
set_option maxRecDepth 20000 in
theorem b_58_160 {d nS : Nat} {x1 x2 x3 : Int32} {M : am_M} {Q : Option Value → am_H → Prop} : am_Wp d 58 160 [.ref 187, .int x1, .int x2, .int x3] [] (hp nS M) Q = Q (some (.int 1)) (hp nS M) := by
  refine (eq_run 1 (q := (161, [.ref 187, .int x1, .int x2, .int x3], [.int 1], hp nS M)) (by with_unfolding_all rfl)).trans ?_
  exact eq_retI2 (e := (.ireturn, 1, 0, 0, 0)) (t := .boolean) (by with_unfolding_all rfl) rfl (by with_unfolding_all rfl) rfl
-- LarkExchange$Reader takes(I)Z (59, (187, None))
set_option maxRecDepth 20000 in
theorem b_59_0 {d nS : Nat} {x1 : Int32} {M : am_M} {Q : Option Value → am_H → Prop} : am_Wp (d + 1) 59 0 [.ref 187, .int x1] [] (hp nS M) Q = am_Wp d 51 0 [.ref 187] [] (hp nS M) (fun v h1 => am_Wp (d + 1) 59 4 [.ref 187, .int x1] (am_ans v []) h1 Q) := by
  refine (eq_run 1 (q := (1, [.ref 187, .int x1], [.ref 187], hp nS M)) (by with_unfolding_all rfl)).trans ?_
  exact eq_call2 (e := (.invokevirtual 60, 3, 0, 51, 105)) (as := [.ref 187]) (r := []) (n := 1) (m := 1) (by with_unfolding_all rfl) rfl (by decide) (by with_unfolding_all rfl) (by decide) (by with_unfolding_all rfl) ⟨fun _ => am_rec_ok (c := 8) (by with_unfolding_all rfl) (by decide +kernel), fun z => by simp at z⟩
set_option maxRecDepth 20000 in
theorem b_59_4 {d nS : Nat} {x1 s0 : Int32} {M : am_M} {Q : Option Value → am_H → Prop} : am_Wp d 59 4 [.ref 187, .int x1] [.int s0] (hp nS M) Q = if s0 = x1 then am_Wp d 59 14 [.ref 187, .int x1] [] (hp nS M) Q else am_Wp d 59 8 [.ref 187, .int x1] [] (hp nS M) Q := by
  refine (eq_run 1 (q := (5, [.ref 187, .int x1], [.int x1, .int s0], hp nS M)) (by with_unfolding_all rfl)).trans ?_
  exact eq_cmp_eq (by with_unfolding_all rfl)
set_option maxRecDepth 20000 in
theorem b_59_8 {d nS : Nat} {x1 : Int32} {M : am_M} {Q : Option Value → am_H → Prop} : am_Wp (d + 1) 59 8 [.ref 187, .int x1] [] (hp nS M) Q = am_Wp d 53 0 [.ref 187, .int 1] [] (hp nS M) (fun v h1 => am_Wp (d + 1) 59 13 [.ref 187, .int x1] (am_ans v []) h1 Q) := by
  refine (eq_run 2 (q := (10, [.ref 187, .int x1], [.int 1, .ref 187], hp nS M)) (by with_unfolding_all rfl)).trans ?_
  exact eq_call2 (e := (.invokevirtual 68, 3, 0, 53, 107)) (as := [.ref 187, .int 1]) (r := []) (n := 2) (m := 2) (by with_unfolding_all rfl) rfl (by decide) (by with_unfolding_all rfl) (by decide) (by with_unfolding_all rfl) ⟨fun _ => am_rec_ok (c := 8) (by with_unfolding_all rfl) (by decide +kernel), fun z => by simp at z⟩
set_option maxRecDepth 20000 in
theorem b_59_13 {d nS : Nat} {x1 s0 : Int32} {M : am_M} {Q : Option Value → am_H → Prop} (h1 : am_rok .boolean s0 = true) : am_Wp d 59 13 [.ref 187, .int x1] [.int s0] (hp nS M) Q = Q (some (.int s0)) (hp nS M) := by
  exact eq_retI2 (e := (.ireturn, 1, 0, 0, 0)) (t := .boolean) (by with_unfolding_all rfl) rfl (by with_unfolding_all rfl) h1
set_option maxRecDepth 20000 in
theorem b_59_14 {d nS : Nat} {x1 : Int32} {M : am_M} {Q : Option Value → am_H → Prop} : am_Wp d 59 14 [.ref 187, .int x1] [] (hp nS M) Q = Q (some (.int 1)) (hp nS (am_up M 187 10 ((M 187 10) + 1))) := by
  refine (eq_run 7 (q := (25, [.ref 187, .int x1], [.int 1], hp nS (am_up M 187 10 ((M 187 10) + 1)))) (by with_unfolding_all rfl)).trans ?_
  exact eq_retI2 (e := (.ireturn, 1, 0, 0, 0)) (t := .boolean) (by with_unfolding_all rfl) rfl (by with_unfolding_all rfl) rfl
-- LarkExchange$Reader readsDawn(LLarkExchange$World;)Z (60, (187, 18))
set_option maxRecDepth 20000 in
theorem b_60_0 {d nS : Nat} {M : am_M} {Q : Option Value → am_H → Prop} : am_Wp (d + 1) 60 0 [.ref 187, .ref 18, .retAddr 0, .retAddr 0, .retAddr 0, .retAddr 0] [] (hp nS M) Q = am_Wp d 61 0 [.ref 187, .int 0, .int 999, .retAddr 0] [] (hp nS (am_up M 187 10 ((M 187 10) + 1))) (fun v h1 => am_Wp (d + 1) 60 18 [.ref 187, .ref 18, .retAddr 0, .retAddr 0, .retAddr 0, .retAddr 0] (am_ans v []) h1 Q) := by
  refine (eq_run 9 (q := (15, [.ref 187, .ref 18, .retAddr 0, .retAddr 0, .retAddr 0, .retAddr 0], [.int 999, .int 0, .ref 187], hp nS (am_up M 187 10 ((M 187 10) + 1)))) (by with_unfolding_all rfl)).trans ?_
  exact eq_call2 (e := (.invokevirtual 132, 3, 0, 61, 123)) (as := [.ref 187, .int 0, .int 999]) (r := []) (n := 3) (m := 4) (by with_unfolding_all rfl) rfl (by decide) (by with_unfolding_all rfl) (by decide) (by with_unfolding_all rfl) ⟨fun _ => am_rec_ok (c := 8) (by with_unfolding_all rfl) (by decide +kernel), fun z => by simp at z⟩
set_option maxRecDepth 20000 in
theorem b_60_18 {d nS : Nat} {s0 : Int32} {M : am_M} {Q : Option Value → am_H → Prop} : am_Wp d 60 18 [.ref 187, .ref 18, .retAddr 0, .retAddr 0, .retAddr 0, .retAddr 0] [.int s0] (hp nS M) Q = if 0 ≤ s0 then am_Wp d 60 25 [.ref 187, .ref 18, .int s0, .retAddr 0, .retAddr 0, .retAddr 0] [] (hp nS M) Q else am_Wp d 60 23 [.ref 187, .ref 18, .int s0, .retAddr 0, .retAddr 0, .retAddr 0] [] (hp nS M) Q := by
  refine (eq_run 2 (q := (20, [.ref 187, .ref 18, .int s0, .retAddr 0, .retAddr 0, .retAddr 0], [.int s0], hp nS M)) (by with_unfolding_all rfl)).trans ?_
  exact eq_if_ge (by with_unfolding_all rfl)
set_option maxRecDepth 20000 in
theorem b_60_23 {d nS : Nat} {x2 : Int32} {M : am_M} {Q : Option Value → am_H → Prop} : am_Wp d 60 23 [.ref 187, .ref 18, .int x2, .retAddr 0, .retAddr 0, .retAddr 0] [] (hp nS M) Q = Q (some (.int 0)) (hp nS M) := by
  refine (eq_run 1 (q := (24, [.ref 187, .ref 18, .int x2, .retAddr 0, .retAddr 0, .retAddr 0], [.int 0], hp nS M)) (by with_unfolding_all rfl)).trans ?_
  exact eq_retI2 (e := (.ireturn, 1, 0, 0, 0)) (t := .boolean) (by with_unfolding_all rfl) rfl (by with_unfolding_all rfl) rfl
set_option maxRecDepth 20000 in
theorem b_60_25 {d nS : Nat} {x2 : Int32} {M : am_M} {Q : Option Value → am_H → Prop} : am_Wp (d + 1) 60 25 [.ref 187, .ref 18, .int x2, .retAddr 0, .retAddr 0, .retAddr 0] [] (hp nS M) Q = am_Wp d 51 0 [.ref 187] [] (hp nS M) (fun v h1 => am_Wp (d + 1) 60 29 [.ref 187, .ref 18, .int x2, .retAddr 0, .retAddr 0, .retAddr 0] (am_ans v []) h1 Q) := by
  refine (eq_run 1 (q := (26, [.ref 187, .ref 18, .int x2, .retAddr 0, .retAddr 0, .retAddr 0], [.ref 187], hp nS M)) (by with_unfolding_all rfl)).trans ?_
  exact eq_call2 (e := (.invokevirtual 60, 3, 0, 51, 105)) (as := [.ref 187]) (r := []) (n := 1) (m := 1) (by with_unfolding_all rfl) rfl (by decide) (by with_unfolding_all rfl) (by decide) (by with_unfolding_all rfl) ⟨fun _ => am_rec_ok (c := 8) (by with_unfolding_all rfl) (by decide +kernel), fun z => by simp at z⟩
set_option maxRecDepth 20000 in
theorem b_60_29 {d nS : Nat} {x2 s0 : Int32} {M : am_M} {Q : Option Value → am_H → Prop} : am_Wp d 60 29 [.ref 187, .ref 18, .int x2, .retAddr 0, .retAddr 0, .retAddr 0] [.int s0] (hp nS M) Q = if s0 = 17 then am_Wp d 60 60 [.ref 187, .ref 18, .int x2, .int s0, .retAddr 0, .retAddr 0] [] (hp nS M) Q else am_Wp d 60 36 [.ref 187, .ref 18, .int x2, .int s0, .retAddr 0, .retAddr 0] [] (hp nS M) Q := by
  refine (eq_run 3 (q := (33, [.ref 187, .ref 18, .int x2, .int s0, .retAddr 0, .retAddr 0], [.int 17, .int s0], hp nS M)) (by with_unfolding_all rfl)).trans ?_
  exact eq_cmp_eq (by with_unfolding_all rfl)
set_option maxRecDepth 20000 in
theorem b_60_36 {d nS : Nat} {x2 x3 : Int32} {M : am_M} {Q : Option Value → am_H → Prop} : am_Wp d 60 36 [.ref 187, .ref 18, .int x2, .int x3, .retAddr 0, .retAddr 0] [] (hp nS M) Q = if x3 = 18 then am_Wp d 60 60 [.ref 187, .ref 18, .int x2, .int x3, .retAddr 0, .retAddr 0] [] (hp nS M) Q else am_Wp d 60 42 [.ref 187, .ref 18, .int x2, .int x3, .retAddr 0, .retAddr 0] [] (hp nS M) Q := by
  refine (eq_run 2 (q := (39, [.ref 187, .ref 18, .int x2, .int x3, .retAddr 0, .retAddr 0], [.int 18, .int x3], hp nS M)) (by with_unfolding_all rfl)).trans ?_
  exact eq_cmp_eq (by with_unfolding_all rfl)
set_option maxRecDepth 20000 in
theorem b_60_42 {d nS : Nat} {x2 x3 : Int32} {M : am_M} {Q : Option Value → am_H → Prop} : am_Wp d 60 42 [.ref 187, .ref 18, .int x2, .int x3, .retAddr 0, .retAddr 0] [] (hp nS M) Q = if x3 = 11 then am_Wp d 60 60 [.ref 187, .ref 18, .int x2, .int x3, .retAddr 0, .retAddr 0] [] (hp nS M) Q else am_Wp d 60 48 [.ref 187, .ref 18, .int x2, .int x3, .retAddr 0, .retAddr 0] [] (hp nS M) Q := by
  refine (eq_run 2 (q := (45, [.ref 187, .ref 18, .int x2, .int x3, .retAddr 0, .retAddr 0], [.int 11, .int x3], hp nS M)) (by with_unfolding_all rfl)).trans ?_
  exact eq_cmp_eq (by with_unfolding_all rfl)
set_option maxRecDepth 20000 in
theorem b_60_48 {d nS : Nat} {x2 x3 : Int32} {M : am_M} {Q : Option Value → am_H → Prop} : am_Wp d 60 48 [.ref 187, .ref 18, .int x2, .int x3, .retAddr 0, .retAddr 0] [] (hp nS M) Q = if x3 = 19 then am_Wp d 60 60 [.ref 187, .ref 18, .int x2, .int x3, .retAddr 0, .retAddr 0] [] (hp nS M) Q else am_Wp d 60 54 [.ref 187, .ref 18, .int x2, .int x3, .retAddr 0, .retAddr 0] [] (hp nS M) Q := by
  refine (eq_run 2 (q := (51, [.ref 187, .ref 18, .int x2, .int x3, .retAddr 0, .retAddr 0], [.int 19, .int x3], hp nS M)) (by with_unfolding_all rfl)).trans ?_
  exact eq_cmp_eq (by with_unfolding_all rfl)
set_option maxRecDepth 20000 in
theorem b_60_54 {d nS : Nat} {x2 x3 : Int32} {M : am_M} {Q : Option Value → am_H → Prop} : am_Wp (d + 1) 60 54 [.ref 187, .ref 18, .int x2, .int x3, .retAddr 0, .retAddr 0] [] (hp nS M) Q = am_Wp d 53 0 [.ref 187, .int 1] [] (hp nS M) (fun v h1 => am_Wp (d + 1) 60 59 [.ref 187, .ref 18, .int x2, .int x3, .retAddr 0, .retAddr 0] (am_ans v []) h1 Q) := by
  refine (eq_run 2 (q := (56, [.ref 187, .ref 18, .int x2, .int x3, .retAddr 0, .retAddr 0], [.int 1, .ref 187], hp nS M)) (by with_unfolding_all rfl)).trans ?_
  exact eq_call2 (e := (.invokevirtual 68, 3, 0, 53, 107)) (as := [.ref 187, .int 1]) (r := []) (n := 2) (m := 2) (by with_unfolding_all rfl) rfl (by decide) (by with_unfolding_all rfl) (by decide) (by with_unfolding_all rfl) ⟨fun _ => am_rec_ok (c := 8) (by with_unfolding_all rfl) (by decide +kernel), fun z => by simp at z⟩
set_option maxRecDepth 20000 in
theorem b_60_59 {d nS : Nat} {x2 x3 s0 : Int32} {M : am_M} {Q : Option Value → am_H → Prop} (h1 : am_rok .boolean s0 = true) : am_Wp d 60 59 [.ref 187, .ref 18, .int x2, .int x3, .retAddr 0, .retAddr 0] [.int s0] (hp nS M) Q = Q (some (.int s0)) (hp nS M) := by
  exact eq_retI2 (e := (.ireturn, 1, 0, 0, 0)) (t := .boolean) (by with_unfolding_all rfl) rfl (by with_unfolding_all rfl) h1
set_option maxRecDepth 20000 in
theorem b_60_60 {d nS : Nat} {x2 x3 : Int32} {M : am_M} {Q : Option Value → am_H → Prop} : am_Wp d 60 60 [.ref 187, .ref 18, .int x2, .int x3, .retAddr 0, .retAddr 0] [] (hp nS M) Q = if ¬ x3 = 11 then am_Wp d 60 80 [.ref 187, .ref 18, .int x2, .int x3, .retAddr 0, .retAddr 0] [] (hp nS (am_up M 187 10 ((M 187 10) + 1))) Q else am_Wp d 60 76 [.ref 187, .ref 18, .int x2, .int x3, .retAddr 0, .retAddr 0] [] (hp nS (am_up M 187 10 ((M 187 10) + 1))) Q := by
  refine (eq_run 8 (q := (73, [.ref 187, .ref 18, .int x2, .int x3, .retAddr 0, .retAddr 0], [.int 11, .int x3], hp nS (am_up M 187 10 ((M 187 10) + 1)))) (by with_unfolding_all rfl)).trans ?_
  exact eq_cmp_ne (by with_unfolding_all rfl)
set_option maxRecDepth 20000 in
theorem b_60_76 {d nS : Nat} {x2 x3 : Int32} {M : am_M} {Q : Option Value → am_H → Prop} : am_Wp d 60 76 [.ref 187, .ref 18, .int x2, .int x3, .retAddr 0, .retAddr 0] [] (hp nS M) Q = am_Wp d 60 91 [.ref 187, .ref 18, .int x2, .int x3, .retAddr 0, .retAddr 0] [.int 0] (hp nS M) Q := by
  exact eq_run 2 (q := (91, [.ref 187, .ref 18, .int x2, .int x3, .retAddr 0, .retAddr 0], [.int 0], hp nS M)) (by with_unfolding_all rfl)
set_option maxRecDepth 20000 in
theorem b_60_80 {d nS : Nat} {x2 x3 : Int32} {M : am_M} {Q : Option Value → am_H → Prop} : am_Wp (d + 1) 60 80 [.ref 187, .ref 18, .int x2, .int x3, .retAddr 0, .retAddr 0] [] (hp nS M) Q = am_Wp d 61 0 [.ref 187, .int 0, .int ((M 18 0) - 1), .retAddr 0] [] (hp nS M) (fun v h1 => am_Wp (d + 1) 60 91 [.ref 187, .ref 18, .int x2, .int x3, .retAddr 0, .retAddr 0] (am_ans v []) h1 Q) := by
  refine (eq_run 6 (q := (88, [.ref 187, .ref 18, .int x2, .int x3, .retAddr 0, .retAddr 0], [.int ((M 18 0) - 1), .int 0, .ref 187], hp nS M)) (by with_unfolding_all rfl)).trans ?_
  exact eq_call2 (e := (.invokevirtual 132, 3, 0, 61, 123)) (as := [.ref 187, .int 0, .int ((M 18 0) - 1)]) (r := []) (n := 3) (m := 4) (by with_unfolding_all rfl) rfl (by decide) (by with_unfolding_all rfl) (by decide) (by with_unfolding_all rfl) ⟨fun _ => am_rec_ok (c := 8) (by with_unfolding_all rfl) (by decide +kernel), fun z => by simp at z⟩
set_option maxRecDepth 20000 in
theorem b_60_91 {d nS : Nat} {x2 x3 s0 : Int32} {M : am_M} {Q : Option Value → am_H → Prop} : am_Wp d 60 91 [.ref 187, .ref 18, .int x2, .int x3, .retAddr 0, .retAddr 0] [.int s0] (hp nS M) Q = if 0 ≤ s0 then am_Wp d 60 100 [.ref 187, .ref 18, .int x2, .int x3, .int s0, .retAddr 0] [] (hp nS M) Q else am_Wp d 60 98 [.ref 187, .ref 18, .int x2, .int x3, .int s0, .retAddr 0] [] (hp nS M) Q := by
  refine (eq_run 2 (q := (95, [.ref 187, .ref 18, .int x2, .int x3, .int s0, .retAddr 0], [.int s0], hp nS M)) (by with_unfolding_all rfl)).trans ?_
  exact eq_if_ge (by with_unfolding_all rfl)
set_option maxRecDepth 20000 in
theorem b_60_98 {d nS : Nat} {x2 x3 x4 : Int32} {M : am_M} {Q : Option Value → am_H → Prop} : am_Wp d 60 98 [.ref 187, .ref 18, .int x2, .int x3, .int x4, .retAddr 0] [] (hp nS M) Q = Q (some (.int 0)) (hp nS M) := by
  refine (eq_run 1 (q := (99, [.ref 187, .ref 18, .int x2, .int x3, .int x4, .retAddr 0], [.int 0], hp nS M)) (by with_unfolding_all rfl)).trans ?_
  exact eq_retI2 (e := (.ireturn, 1, 0, 0, 0)) (t := .boolean) (by with_unfolding_all rfl) rfl (by with_unfolding_all rfl) rfl
set_option maxRecDepth 20000 in
theorem b_60_100 {d nS : Nat} {x2 x3 x4 : Int32} {M : am_M} {Q : Option Value → am_H → Prop} : am_Wp d 60 100 [.ref 187, .ref 18, .int x2, .int x3, .int x4, .retAddr 0] [] (hp nS M) Q = if ¬ x3 = 17 then am_Wp d 60 116 [.ref 187, .ref 18, .int x2, .int x3, .int x4, .retAddr 0] [] (hp nS M) Q else am_Wp d 60 106 [.ref 187, .ref 18, .int x2, .int x3, .int x4, .retAddr 0] [] (hp nS M) Q := by
  refine (eq_run 2 (q := (103, [.ref 187, .ref 18, .int x2, .int x3, .int x4, .retAddr 0], [.int 17, .int x3], hp nS M)) (by with_unfolding_all rfl)).trans ?_
  exact eq_cmp_ne (by with_unfolding_all rfl)
set_option maxRecDepth 20000 in
theorem b_60_106 {d nS : Nat} {x2 x3 x4 : Int32} {M : am_M} {Q : Option Value → am_H → Prop} : am_Wp (d + 1) 60 106 [.ref 187, .ref 18, .int x2, .int x3, .int x4, .retAddr 0] [] (hp nS M) Q = am_Wp d 61 0 [.ref 187, .int 1, .int 9, .retAddr 0] [] (hp nS M) (fun v h1 => am_Wp (d + 1) 60 113 [.ref 187, .ref 18, .int x2, .int x3, .int x4, .retAddr 0] (am_ans v []) h1 Q) := by
  refine (eq_run 3 (q := (110, [.ref 187, .ref 18, .int x2, .int x3, .int x4, .retAddr 0], [.int 9, .int 1, .ref 187], hp nS M)) (by with_unfolding_all rfl)).trans ?_
  exact eq_call2 (e := (.invokevirtual 132, 3, 0, 61, 123)) (as := [.ref 187, .int 1, .int 9]) (r := []) (n := 3) (m := 4) (by with_unfolding_all rfl) rfl (by decide) (by with_unfolding_all rfl) (by decide) (by with_unfolding_all rfl) ⟨fun _ => am_rec_ok (c := 8) (by with_unfolding_all rfl) (by decide +kernel), fun z => by simp at z⟩
set_option maxRecDepth 20000 in
theorem b_60_113 {d nS : Nat} {x2 x3 x4 s0 : Int32} {M : am_M} {Q : Option Value → am_H → Prop} : am_Wp d 60 113 [.ref 187, .ref 18, .int x2, .int x3, .int x4, .retAddr 0] [.int s0] (hp nS M) Q = am_Wp d 60 133 [.ref 187, .ref 18, .int x2, .int x3, .int x4, .retAddr 0] [.int s0] (hp nS M) Q := by
  exact eq_run 1 (q := (133, [.ref 187, .ref 18, .int x2, .int x3, .int x4, .retAddr 0], [.int s0], hp nS M)) (by with_unfolding_all rfl)
set_option maxRecDepth 20000 in
theorem b_60_116 {d nS : Nat} {x2 x3 x4 : Int32} {M : am_M} {Q : Option Value → am_H → Prop} : am_Wp d 60 116 [.ref 187, .ref 18, .int x2, .int x3, .int x4, .retAddr 0] [] (hp nS M) Q = if ¬ x3 = 11 then am_Wp d 60 132 [.ref 187, .ref 18, .int x2, .int x3, .int x4, .retAddr 0] [] (hp nS M) Q else am_Wp d 60 122 [.ref 187, .ref 18, .int x2, .int x3, .int x4, .retAddr 0] [] (hp nS M) Q := by
  refine (eq_run 2 (q := (119, [.ref 187, .ref 18, .int x2, .int x3, .int x4, .retAddr 0], [.int 11, .int x3], hp nS M)) (by with_unfolding_all rfl)).trans ?_
  exact eq_cmp_ne (by with_unfolding_all rfl)
set_option maxRecDepth 20000 in
theorem b_60_122 {d nS : Nat} {x2 x3 x4 : Int32} {M : am_M} {Q : Option Value → am_H → Prop} : am_Wp (d + 1) 60 122 [.ref 187, .ref 18, .int x2, .int x3, .int x4, .retAddr 0] [] (hp nS M) Q = am_Wp d 61 0 [.ref 187, .int 0, .int 9, .retAddr 0] [] (hp nS M) (fun v h1 => am_Wp (d + 1) 60 129 [.ref 187, .ref 18, .int x2, .int x3, .int x4, .retAddr 0] (am_ans v []) h1 Q) := by
  refine (eq_run 3 (q := (126, [.ref 187, .ref 18, .int x2, .int x3, .int x4, .retAddr 0], [.int 9, .int 0, .ref 187], hp nS M)) (by with_unfolding_all rfl)).trans ?_
  exact eq_call2 (e := (.invokevirtual 132, 3, 0, 61, 123)) (as := [.ref 187, .int 0, .int 9]) (r := []) (n := 3) (m := 4) (by with_unfolding_all rfl) rfl (by decide) (by with_unfolding_all rfl) (by decide) (by with_unfolding_all rfl) ⟨fun _ => am_rec_ok (c := 8) (by with_unfolding_all rfl) (by decide +kernel), fun z => by simp at z⟩
set_option maxRecDepth 20000 in
theorem b_60_129 {d nS : Nat} {x2 x3 x4 s0 : Int32} {M : am_M} {Q : Option Value → am_H → Prop} : am_Wp d 60 129 [.ref 187, .ref 18, .int x2, .int x3, .int x4, .retAddr 0] [.int s0] (hp nS M) Q = am_Wp d 60 133 [.ref 187, .ref 18, .int x2, .int x3, .int x4, .retAddr 0] [.int s0] (hp nS M) Q := by
  exact eq_run 1 (q := (133, [.ref 187, .ref 18, .int x2, .int x3, .int x4, .retAddr 0], [.int s0], hp nS M)) (by with_unfolding_all rfl)
set_option maxRecDepth 20000 in
theorem b_60_132 {d nS : Nat} {x2 x3 x4 : Int32} {M : am_M} {Q : Option Value → am_H → Prop} : am_Wp d 60 132 [.ref 187, .ref 18, .int x2, .int x3, .int x4, .retAddr 0] [] (hp nS M) Q = am_Wp d 60 133 [.ref 187, .ref 18, .int x2, .int x3, .int x4, .retAddr 0] [.int 0] (hp nS M) Q := by
  exact eq_run 1 (q := (133, [.ref 187, .ref 18, .int x2, .int x3, .int x4, .retAddr 0], [.int 0], hp nS M)) (by with_unfolding_all rfl)
set_option maxRecDepth 20000 in
theorem b_60_133 {d nS : Nat} {x2 x3 x4 s0 : Int32} {M : am_M} {Q : Option Value → am_H → Prop} : am_Wp d 60 133 [.ref 187, .ref 18, .int x2, .int x3, .int x4, .retAddr 0] [.int s0] (hp nS M) Q = if 0 ≤ s0 then am_Wp d 60 142 [.ref 187, .ref 18, .int x2, .int x3, .int x4, .int s0] [] (hp nS M) Q else am_Wp d 60 140 [.ref 187, .ref 18, .int x2, .int x3, .int x4, .int s0] [] (hp nS M) Q := by
  refine (eq_run 2 (q := (137, [.ref 187, .ref 18, .int x2, .int x3, .int x4, .int s0], [.int s0], hp nS M)) (by with_unfolding_all rfl)).trans ?_
  exact eq_if_ge (by with_unfolding_all rfl)
set_option maxRecDepth 20000 in
theorem b_60_140 {d nS : Nat} {x2 x3 x4 x5 : Int32} {M : am_M} {Q : Option Value → am_H → Prop} : am_Wp d 60 140 [.ref 187, .ref 18, .int x2, .int x3, .int x4, .int x5] [] (hp nS M) Q = Q (some (.int 0)) (hp nS M) := by
  refine (eq_run 1 (q := (141, [.ref 187, .ref 18, .int x2, .int x3, .int x4, .int x5], [.int 0], hp nS M)) (by with_unfolding_all rfl)).trans ?_
  exact eq_retI2 (e := (.ireturn, 1, 0, 0, 0)) (t := .boolean) (by with_unfolding_all rfl) rfl (by with_unfolding_all rfl) rfl
set_option maxRecDepth 20000 in
theorem b_60_142 {d nS : Nat} {x2 x3 x4 x5 : Int32} {M : am_M} {Q : Option Value → am_H → Prop} : am_Wp (d + 1) 60 142 [.ref 187, .ref 18, .int x2, .int x3, .int x4, .int x5] [] (hp nS M) Q = am_Wp d 34 0 [.ref 196, .int x2, .int x3, .int x4, .int x5, .int 0, .retAddr 0] [] (hp nS M) (fun v h1 => am_Wp (d + 1) 60 156 [.ref 187, .ref 18, .int x2, .int x3, .int x4, .int x5] (am_ans v []) h1 Q) := by
  refine (eq_run 7 (q := (153, [.ref 187, .ref 18, .int x2, .int x3, .int x4, .int x5], [.int 0, .int x5, .int x4, .int x3, .int x2, .ref 196], hp nS M)) (by with_unfolding_all rfl)).trans ?_
  exact eq_call2 (e := (.invokevirtual 140, 3, 0, 34, 124)) (as := [.ref 196, .int x2, .int x3, .int x4, .int x5, .int 0]) (r := []) (n := 6) (m := 7) (by with_unfolding_all rfl) rfl (by decide) (by with_unfolding_all rfl) (by decide) (by with_unfolding_all rfl) ⟨fun _ => am_rec_ok (c := 6) (by with_unfolding_all rfl) (by decide +kernel), fun z => by simp at z⟩
set_option maxRecDepth 20000 in
theorem b_60_156 {d nS : Nat} {x2 x3 x4 x5 : Int32} {M : am_M} {Q : Option Value → am_H → Prop} : am_Wp d 60 156 [.ref 187, .ref 18, .int x2, .int x3, .int x4, .int x5] [] (hp nS M) Q = Q (some (.int 1)) (hp nS M) := by
  refine (eq_run 1 (q := (157, [.ref 187, .ref 18, .int x2, .int x3, .int x4, .int x5], [.int 1], hp nS M)) (by with_unfolding_all rfl)).trans ?_
  exact eq_retI2 (e := (.ireturn, 1, 0, 0, 0)) (t := .boolean) (by with_unfolding_all rfl) rfl (by with_unfolding_all rfl) rfl
-- LarkExchange$Reader takesNumber(II)I (61, (187, None, None))
set_option maxRecDepth 20000 in
theorem b_61_0 {d nS : Nat} {x1 x2 : Int32} {M : am_M} {Q : Option Value → am_H → Prop} : am_Wp (d + 1) 61 0 [.ref 187, .int x1, .int x2, .retAddr 0] [] (hp nS M) Q = am_Wp d 51 0 [.ref 187] [] (hp nS M) (fun v h1 => am_Wp (d + 1) 61 4 [.ref 187, .int x1, .int x2, .retAddr 0] (am_ans v []) h1 Q) := by
  refine (eq_run 1 (q := (1, [.ref 187, .int x1, .int x2, .retAddr 0], [.ref 187], hp nS M)) (by with_unfolding_all rfl)).trans ?_
  exact eq_call2 (e := (.invokevirtual 60, 3, 0, 51, 105)) (as := [.ref 187]) (r := []) (n := 1) (m := 1) (by with_unfolding_all rfl) rfl (by decide) (by with_unfolding_all rfl) (by decide) (by with_unfolding_all rfl) ⟨fun _ => am_rec_ok (c := 8) (by with_unfolding_all rfl) (by decide +kernel), fun z => by simp at z⟩
set_option maxRecDepth 20000 in
theorem b_61_4 {d nS : Nat} {x1 x2 s0 : Int32} {M : am_M} {Q : Option Value → am_H → Prop} : am_Wp d 61 4 [.ref 187, .int x1, .int x2, .retAddr 0] [.int s0] (hp nS M) Q = if s0 = 36 then am_Wp d 61 17 [.ref 187, .int x1, .int x2, .retAddr 0] [] (hp nS M) Q else am_Wp d 61 9 [.ref 187, .int x1, .int x2, .retAddr 0] [] (hp nS M) Q := by
  refine (eq_run 1 (q := (6, [.ref 187, .int x1, .int x2, .retAddr 0], [.int 36, .int s0], hp nS M)) (by with_unfolding_all rfl)).trans ?_
  exact eq_cmp_eq (by with_unfolding_all rfl)
set_option maxRecDepth 20000 in
theorem b_61_9 {d nS : Nat} {x1 x2 : Int32} {M : am_M} {Q : Option Value → am_H → Prop} : am_Wp (d + 1) 61 9 [.ref 187, .int x1, .int x2, .retAddr 0] [] (hp nS M) Q = am_Wp d 53 0 [.ref 187, .int 1] [] (hp nS M) (fun v h1 => am_Wp (d + 1) 61 14 [.ref 187, .int x1, .int x2, .retAddr 0] (am_ans v []) h1 Q) := by
  refine (eq_run 2 (q := (11, [.ref 187, .int x1, .int x2, .retAddr 0], [.int 1, .ref 187], hp nS M)) (by with_unfolding_all rfl)).trans ?_
  exact eq_call2 (e := (.invokevirtual 68, 3, 0, 53, 107)) (as := [.ref 187, .int 1]) (r := []) (n := 2) (m := 2) (by with_unfolding_all rfl) rfl (by decide) (by with_unfolding_all rfl) (by decide) (by with_unfolding_all rfl) ⟨fun _ => am_rec_ok (c := 8) (by with_unfolding_all rfl) (by decide +kernel), fun z => by simp at z⟩
set_option maxRecDepth 20000 in
theorem b_61_14 {d nS : Nat} {x1 x2 s0 : Int32} {M : am_M} {Q : Option Value → am_H → Prop} : am_Wp d 61 14 [.ref 187, .int x1, .int x2, .retAddr 0] [.int s0] (hp nS M) Q = Q (some (.int (-1))) (hp nS M) := by
  refine (eq_run 2 (q := (16, [.ref 187, .int x1, .int x2, .retAddr 0], [.int (-1)], hp nS M)) (by with_unfolding_all rfl)).trans ?_
  exact eq_retI2 (e := (.ireturn, 1, 0, 0, 0)) (t := .int) (by with_unfolding_all rfl) rfl (by with_unfolding_all rfl) rfl
set_option maxRecDepth 20000 in
theorem b_61_17 {d nS : Nat} {x1 x2 : Int32} {M : am_M} {Q : Option Value → am_H → Prop} (h1 : vp_in (M 187 10) 401) : am_Wp d 61 17 [.ref 187, .int x1, .int x2, .retAddr 0] [] (hp nS M) Q = if (M 200 (M 187 10).toNatClampNeg) < x1 then am_Wp d 61 37 [.ref 187, .int x1, .int x2, .int (M 200 (M 187 10).toNatClampNeg)] [] (hp nS M) Q else am_Wp d 61 32 [.ref 187, .int x1, .int x2, .int (M 200 (M 187 10).toNatClampNeg)] [] (hp nS M) Q := by
  refine (eq_run 4 (q := (25, [.ref 187, .int x1, .int x2, .retAddr 0], [.int (M 187 10), .ref 200], hp nS M)) (by with_unfolding_all rfl)).trans ?_
  refine (eq_ald (e := (.iaload, 1, 0, 0, 0)) (by with_unfolding_all rfl) rfl (n := 401) (by with_unfolding_all rfl) h1).trans ?_
  refine (eq_run 3 (q := (29, [.ref 187, .int x1, .int x2, .int (M 200 (M 187 10).toNatClampNeg)], [.int x1, .int (M 200 (M 187 10).toNatClampNeg)], hp nS M)) (by with_unfolding_all rfl)).trans ?_
  exact eq_cmp_lt (by with_unfolding_all rfl)
set_option maxRecDepth 20000 in
theorem b_61_32 {d nS : Nat} {x1 x2 x3 : Int32} {M : am_M} {Q : Option Value → am_H → Prop} : am_Wp d 61 32 [.ref 187, .int x1, .int x2, .int x3] [] (hp nS M) Q = if x3 ≤ x2 then am_Wp d 61 45 [.ref 187, .int x1, .int x2, .int x3] [] (hp nS M) Q else am_Wp d 61 37 [.ref 187, .int x1, .int x2, .int x3] [] (hp nS M) Q := by
  refine (eq_run 2 (q := (34, [.ref 187, .int x1, .int x2, .int x3], [.int x2, .int x3], hp nS M)) (by with_unfolding_all rfl)).trans ?_
  exact eq_cmp_le (by with_unfolding_all rfl)
set_option maxRecDepth 20000 in
theorem b_61_37 {d nS : Nat} {x1 x2 x3 : Int32} {M : am_M} {Q : Option Value → am_H → Prop} : am_Wp (d + 1) 61 37 [.ref 187, .int x1, .int x2, .int x3] [] (hp nS M) Q = am_Wp d 53 0 [.ref 187, .int 2] [] (hp nS M) (fun v h1 => am_Wp (d + 1) 61 42 [.ref 187, .int x1, .int x2, .int x3] (am_ans v []) h1 Q) := by
  refine (eq_run 2 (q := (39, [.ref 187, .int x1, .int x2, .int x3], [.int 2, .ref 187], hp nS M)) (by with_unfolding_all rfl)).trans ?_
  exact eq_call2 (e := (.invokevirtual 68, 3, 0, 53, 107)) (as := [.ref 187, .int 2]) (r := []) (n := 2) (m := 2) (by with_unfolding_all rfl) rfl (by decide) (by with_unfolding_all rfl) (by decide) (by with_unfolding_all rfl) ⟨fun _ => am_rec_ok (c := 8) (by with_unfolding_all rfl) (by decide +kernel), fun z => by simp at z⟩
set_option maxRecDepth 20000 in
theorem b_61_42 {d nS : Nat} {x1 x2 x3 s0 : Int32} {M : am_M} {Q : Option Value → am_H → Prop} : am_Wp d 61 42 [.ref 187, .int x1, .int x2, .int x3] [.int s0] (hp nS M) Q = Q (some (.int (-1))) (hp nS M) := by
  refine (eq_run 2 (q := (44, [.ref 187, .int x1, .int x2, .int x3], [.int (-1)], hp nS M)) (by with_unfolding_all rfl)).trans ?_
  exact eq_retI2 (e := (.ireturn, 1, 0, 0, 0)) (t := .int) (by with_unfolding_all rfl) rfl (by with_unfolding_all rfl) rfl
set_option maxRecDepth 20000 in
theorem b_61_45 {d nS : Nat} {x1 x2 x3 : Int32} {M : am_M} {Q : Option Value → am_H → Prop} : am_Wp d 61 45 [.ref 187, .int x1, .int x2, .int x3] [] (hp nS M) Q = Q (some (.int x3)) (hp nS (am_up M 187 10 ((M 187 10) + 1))) := by
  refine (eq_run 7 (q := (56, [.ref 187, .int x1, .int x2, .int x3], [.int x3], hp nS (am_up M 187 10 ((M 187 10) + 1)))) (by with_unfolding_all rfl)).trans ?_
  exact eq_retI2 (e := (.ireturn, 1, 0, 0, 0)) (t := .int) (by with_unfolding_all rfl) rfl (by with_unfolding_all rfl) rfl
-- LarkExchange$Reader readsTrade(LLarkExchange$World;)Z (62, (187, 18))
set_option maxRecDepth 20000 in
theorem b_62_0 {d nS : Nat} {M : am_M} {Q : Option Value → am_H → Prop} : am_Wp (d + 1) 62 0 [.ref 187, .ref 18, .retAddr 0, .retAddr 0, .retAddr 0, .retAddr 0, .retAddr 0] [] (hp nS M) Q = am_Wp d 61 0 [.ref 187, .int 0, .int 999, .retAddr 0] [] (hp nS (am_up M 187 10 ((M 187 10) + 1))) (fun v h1 => am_Wp (d + 1) 62 18 [.ref 187, .ref 18, .retAddr 0, .retAddr 0, .retAddr 0, .retAddr 0, .retAddr 0] (am_ans v []) h1 Q) := by
  refine (eq_run 9 (q := (15, [.ref 187, .ref 18, .retAddr 0, .retAddr 0, .retAddr 0, .retAddr 0, .retAddr 0], [.int 999, .int 0, .ref 187], hp nS (am_up M 187 10 ((M 187 10) + 1)))) (by with_unfolding_all rfl)).trans ?_
  exact eq_call2 (e := (.invokevirtual 132, 3, 0, 61, 123)) (as := [.ref 187, .int 0, .int 999]) (r := []) (n := 3) (m := 4) (by with_unfolding_all rfl) rfl (by decide) (by with_unfolding_all rfl) (by decide) (by with_unfolding_all rfl) ⟨fun _ => am_rec_ok (c := 8) (by with_unfolding_all rfl) (by decide +kernel), fun z => by simp at z⟩
set_option maxRecDepth 20000 in
theorem b_62_18 {d nS : Nat} {s0 : Int32} {M : am_M} {Q : Option Value → am_H → Prop} : am_Wp d 62 18 [.ref 187, .ref 18, .retAddr 0, .retAddr 0, .retAddr 0, .retAddr 0, .retAddr 0] [.int s0] (hp nS M) Q = if s0 < 0 then am_Wp d 62 32 [.ref 187, .ref 18, .int s0, .retAddr 0, .retAddr 0, .retAddr 0, .retAddr 0] [] (hp nS M) Q else am_Wp d 62 23 [.ref 187, .ref 18, .int s0, .retAddr 0, .retAddr 0, .retAddr 0, .retAddr 0] [] (hp nS M) Q := by
  refine (eq_run 2 (q := (20, [.ref 187, .ref 18, .int s0, .retAddr 0, .retAddr 0, .retAddr 0, .retAddr 0], [.int s0], hp nS M)) (by with_unfolding_all rfl)).trans ?_
  exact eq_if_lt (by with_unfolding_all rfl)
set_option maxRecDepth 20000 in
theorem b_62_23 {d nS : Nat} {x2 : Int32} {M : am_M} {Q : Option Value → am_H → Prop} : am_Wp (d + 1) 62 23 [.ref 187, .ref 18, .int x2, .retAddr 0, .retAddr 0, .retAddr 0, .retAddr 0] [] (hp nS M) Q = am_Wp d 59 0 [.ref 187, .int 20] [] (hp nS M) (fun v h1 => am_Wp (d + 1) 62 29 [.ref 187, .ref 18, .int x2, .retAddr 0, .retAddr 0, .retAddr 0, .retAddr 0] (am_ans v []) h1 Q) := by
  refine (eq_run 2 (q := (26, [.ref 187, .ref 18, .int x2, .retAddr 0, .retAddr 0, .retAddr 0, .retAddr 0], [.int 20, .ref 187], hp nS M)) (by with_unfolding_all rfl)).trans ?_
  exact eq_call2 (e := (.invokevirtual 85, 3, 0, 59, 112)) (as := [.ref 187, .int 20]) (r := []) (n := 2) (m := 2) (by with_unfolding_all rfl) rfl (by decide) (by with_unfolding_all rfl) (by decide) (by with_unfolding_all rfl) ⟨fun _ => am_rec_ok (c := 8) (by with_unfolding_all rfl) (by decide +kernel), fun z => by simp at z⟩
set_option maxRecDepth 20000 in
theorem b_62_29 {d nS : Nat} {x2 s0 : Int32} {M : am_M} {Q : Option Value → am_H → Prop} : am_Wp d 62 29 [.ref 187, .ref 18, .int x2, .retAddr 0, .retAddr 0, .retAddr 0, .retAddr 0] [.int s0] (hp nS M) Q = if ¬ s0 = 0 then am_Wp d 62 34 [.ref 187, .ref 18, .int x2, .retAddr 0, .retAddr 0, .retAddr 0, .retAddr 0] [] (hp nS M) Q else am_Wp d 62 32 [.ref 187, .ref 18, .int x2, .retAddr 0, .retAddr 0, .retAddr 0, .retAddr 0] [] (hp nS M) Q := by
  exact eq_if_ne (by with_unfolding_all rfl)
set_option maxRecDepth 20000 in
theorem b_62_32 {d nS : Nat} {x2 : Int32} {M : am_M} {Q : Option Value → am_H → Prop} : am_Wp d 62 32 [.ref 187, .ref 18, .int x2, .retAddr 0, .retAddr 0, .retAddr 0, .retAddr 0] [] (hp nS M) Q = Q (some (.int 0)) (hp nS M) := by
  refine (eq_run 1 (q := (33, [.ref 187, .ref 18, .int x2, .retAddr 0, .retAddr 0, .retAddr 0, .retAddr 0], [.int 0], hp nS M)) (by with_unfolding_all rfl)).trans ?_
  exact eq_retI2 (e := (.ireturn, 1, 0, 0, 0)) (t := .boolean) (by with_unfolding_all rfl) rfl (by with_unfolding_all rfl) rfl
set_option maxRecDepth 20000 in
theorem b_62_34 {d nS : Nat} {x2 : Int32} {M : am_M} {Q : Option Value → am_H → Prop} : am_Wp (d + 1) 62 34 [.ref 187, .ref 18, .int x2, .retAddr 0, .retAddr 0, .retAddr 0, .retAddr 0] [] (hp nS M) Q = am_Wp d 61 0 [.ref 187, .int 0, .int ((M 18 2) - 1), .retAddr 0] [] (hp nS M) (fun v h1 => am_Wp (d + 1) 62 45 [.ref 187, .ref 18, .int x2, .retAddr 0, .retAddr 0, .retAddr 0, .retAddr 0] (am_ans v []) h1 Q) := by
  refine (eq_run 6 (q := (42, [.ref 187, .ref 18, .int x2, .retAddr 0, .retAddr 0, .retAddr 0, .retAddr 0], [.int ((M 18 2) - 1), .int 0, .ref 187], hp nS M)) (by with_unfolding_all rfl)).trans ?_
  exact eq_call2 (e := (.invokevirtual 132, 3, 0, 61, 123)) (as := [.ref 187, .int 0, .int ((M 18 2) - 1)]) (r := []) (n := 3) (m := 4) (by with_unfolding_all rfl) rfl (by decide) (by with_unfolding_all rfl) (by decide) (by with_unfolding_all rfl) ⟨fun _ => am_rec_ok (c := 8) (by with_unfolding_all rfl) (by decide +kernel), fun z => by simp at z⟩
set_option maxRecDepth 20000 in
theorem b_62_45 {d nS : Nat} {x2 s0 : Int32} {M : am_M} {Q : Option Value → am_H → Prop} : am_Wp d 62 45 [.ref 187, .ref 18, .int x2, .retAddr 0, .retAddr 0, .retAddr 0, .retAddr 0] [.int s0] (hp nS M) Q = if 0 ≤ s0 then am_Wp d 62 52 [.ref 187, .ref 18, .int x2, .int s0, .retAddr 0, .retAddr 0, .retAddr 0] [] (hp nS M) Q else am_Wp d 62 50 [.ref 187, .ref 18, .int x2, .int s0, .retAddr 0, .retAddr 0, .retAddr 0] [] (hp nS M) Q := by
  refine (eq_run 2 (q := (47, [.ref 187, .ref 18, .int x2, .int s0, .retAddr 0, .retAddr 0, .retAddr 0], [.int s0], hp nS M)) (by with_unfolding_all rfl)).trans ?_
  exact eq_if_ge (by with_unfolding_all rfl)
set_option maxRecDepth 20000 in
theorem b_62_50 {d nS : Nat} {x2 x3 : Int32} {M : am_M} {Q : Option Value → am_H → Prop} : am_Wp d 62 50 [.ref 187, .ref 18, .int x2, .int x3, .retAddr 0, .retAddr 0, .retAddr 0] [] (hp nS M) Q = Q (some (.int 0)) (hp nS M) := by
  refine (eq_run 1 (q := (51, [.ref 187, .ref 18, .int x2, .int x3, .retAddr 0, .retAddr 0, .retAddr 0], [.int 0], hp nS M)) (by with_unfolding_all rfl)).trans ?_
  exact eq_retI2 (e := (.ireturn, 1, 0, 0, 0)) (t := .boolean) (by with_unfolding_all rfl) rfl (by with_unfolding_all rfl) rfl
set_option maxRecDepth 20000 in
theorem b_62_52 {d nS : Nat} {x2 x3 : Int32} {M : am_M} {Q : Option Value → am_H → Prop} : am_Wp (d + 1) 62 52 [.ref 187, .ref 18, .int x2, .int x3, .retAddr 0, .retAddr 0, .retAddr 0] [] (hp nS M) Q = am_Wp d 51 0 [.ref 187] [] (hp nS M) (fun v h1 => am_Wp (d + 1) 62 56 [.ref 187, .ref 18, .int x2, .int x3, .retAddr 0, .retAddr 0, .retAddr 0] (am_ans v []) h1 Q) := by
  refine (eq_run 1 (q := (53, [.ref 187, .ref 18, .int x2, .int x3, .retAddr 0, .retAddr 0, .retAddr 0], [.ref 187], hp nS M)) (by with_unfolding_all rfl)).trans ?_
  exact eq_call2 (e := (.invokevirtual 60, 3, 0, 51, 105)) (as := [.ref 187]) (r := []) (n := 1) (m := 1) (by with_unfolding_all rfl) rfl (by decide) (by with_unfolding_all rfl) (by decide) (by with_unfolding_all rfl) ⟨fun _ => am_rec_ok (c := 8) (by with_unfolding_all rfl) (by decide +kernel), fun z => by simp at z⟩
set_option maxRecDepth 20000 in
theorem b_62_56 {d nS : Nat} {x2 x3 s0 : Int32} {M : am_M} {Q : Option Value → am_H → Prop} : am_Wp d 62 56 [.ref 187, .ref 18, .int x2, .int x3, .retAddr 0, .retAddr 0, .retAddr 0] [.int s0] (hp nS M) Q = if s0 = 21 then am_Wp d 62 78 [.ref 187, .ref 18, .int x2, .int x3, .int s0, .retAddr 0, .retAddr 0] [] (hp nS M) Q else am_Wp d 62 65 [.ref 187, .ref 18, .int x2, .int x3, .int s0, .retAddr 0, .retAddr 0] [] (hp nS M) Q := by
  refine (eq_run 3 (q := (62, [.ref 187, .ref 18, .int x2, .int x3, .int s0, .retAddr 0, .retAddr 0], [.int 21, .int s0], hp nS M)) (by with_unfolding_all rfl)).trans ?_
  exact eq_cmp_eq (by with_unfolding_all rfl)
set_option maxRecDepth 20000 in
theorem b_62_65 {d nS : Nat} {x2 x3 x4 : Int32} {M : am_M} {Q : Option Value → am_H → Prop} : am_Wp d 62 65 [.ref 187, .ref 18, .int x2, .int x3, .int x4, .retAddr 0, .retAddr 0] [] (hp nS M) Q = if x4 = 22 then am_Wp d 62 78 [.ref 187, .ref 18, .int x2, .int x3, .int x4, .retAddr 0, .retAddr 0] [] (hp nS M) Q else am_Wp d 62 72 [.ref 187, .ref 18, .int x2, .int x3, .int x4, .retAddr 0, .retAddr 0] [] (hp nS M) Q := by
  refine (eq_run 2 (q := (69, [.ref 187, .ref 18, .int x2, .int x3, .int x4, .retAddr 0, .retAddr 0], [.int 22, .int x4], hp nS M)) (by with_unfolding_all rfl)).trans ?_
  exact eq_cmp_eq (by with_unfolding_all rfl)
set_option maxRecDepth 20000 in
theorem b_62_72 {d nS : Nat} {x2 x3 x4 : Int32} {M : am_M} {Q : Option Value → am_H → Prop} : am_Wp (d + 1) 62 72 [.ref 187, .ref 18, .int x2, .int x3, .int x4, .retAddr 0, .retAddr 0] [] (hp nS M) Q = am_Wp d 53 0 [.ref 187, .int 1] [] (hp nS M) (fun v h1 => am_Wp (d + 1) 62 77 [.ref 187, .ref 18, .int x2, .int x3, .int x4, .retAddr 0, .retAddr 0] (am_ans v []) h1 Q) := by
  refine (eq_run 2 (q := (74, [.ref 187, .ref 18, .int x2, .int x3, .int x4, .retAddr 0, .retAddr 0], [.int 1, .ref 187], hp nS M)) (by with_unfolding_all rfl)).trans ?_
  exact eq_call2 (e := (.invokevirtual 68, 3, 0, 53, 107)) (as := [.ref 187, .int 1]) (r := []) (n := 2) (m := 2) (by with_unfolding_all rfl) rfl (by decide) (by with_unfolding_all rfl) (by decide) (by with_unfolding_all rfl) ⟨fun _ => am_rec_ok (c := 8) (by with_unfolding_all rfl) (by decide +kernel), fun z => by simp at z⟩
set_option maxRecDepth 20000 in
theorem b_62_77 {d nS : Nat} {x2 x3 x4 s0 : Int32} {M : am_M} {Q : Option Value → am_H → Prop} (h1 : am_rok .boolean s0 = true) : am_Wp d 62 77 [.ref 187, .ref 18, .int x2, .int x3, .int x4, .retAddr 0, .retAddr 0] [.int s0] (hp nS M) Q = Q (some (.int s0)) (hp nS M) := by
  exact eq_retI2 (e := (.ireturn, 1, 0, 0, 0)) (t := .boolean) (by with_unfolding_all rfl) rfl (by with_unfolding_all rfl) h1
set_option maxRecDepth 20000 in
theorem b_62_78 {d nS : Nat} {x2 x3 x4 : Int32} {M : am_M} {Q : Option Value → am_H → Prop} : am_Wp (d + 1) 62 78 [.ref 187, .ref 18, .int x2, .int x3, .int x4, .retAddr 0, .retAddr 0] [] (hp nS M) Q = am_Wp d 61 0 [.ref 187, .int 1, .int 99, .retAddr 0] [] (hp nS (am_up M 187 10 ((M 187 10) + 1))) (fun v h1 => am_Wp (d + 1) 62 95 [.ref 187, .ref 18, .int x2, .int x3, .int x4, .retAddr 0, .retAddr 0] (am_ans v []) h1 Q) := by
  refine (eq_run 9 (q := (92, [.ref 187, .ref 18, .int x2, .int x3, .int x4, .retAddr 0, .retAddr 0], [.int 99, .int 1, .ref 187], hp nS (am_up M 187 10 ((M 187 10) + 1)))) (by with_unfolding_all rfl)).trans ?_
  exact eq_call2 (e := (.invokevirtual 132, 3, 0, 61, 123)) (as := [.ref 187, .int 1, .int 99]) (r := []) (n := 3) (m := 4) (by with_unfolding_all rfl) rfl (by decide) (by with_unfolding_all rfl) (by decide) (by with_unfolding_all rfl) ⟨fun _ => am_rec_ok (c := 8) (by with_unfolding_all rfl) (by decide +kernel), fun z => by simp at z⟩
set_option maxRecDepth 20000 in
theorem b_62_95 {d nS : Nat} {x2 x3 x4 s0 : Int32} {M : am_M} {Q : Option Value → am_H → Prop} : am_Wp d 62 95 [.ref 187, .ref 18, .int x2, .int x3, .int x4, .retAddr 0, .retAddr 0] [.int s0] (hp nS M) Q = if s0 < 0 then am_Wp d 62 111 [.ref 187, .ref 18, .int x2, .int x3, .int x4, .int s0, .retAddr 0] [] (hp nS M) Q else am_Wp d 62 102 [.ref 187, .ref 18, .int x2, .int x3, .int x4, .int s0, .retAddr 0] [] (hp nS M) Q := by
  refine (eq_run 2 (q := (99, [.ref 187, .ref 18, .int x2, .int x3, .int x4, .int s0, .retAddr 0], [.int s0], hp nS M)) (by with_unfolding_all rfl)).trans ?_
  exact eq_if_lt (by with_unfolding_all rfl)
set_option maxRecDepth 20000 in
theorem b_62_102 {d nS : Nat} {x2 x3 x4 x5 : Int32} {M : am_M} {Q : Option Value → am_H → Prop} : am_Wp (d + 1) 62 102 [.ref 187, .ref 18, .int x2, .int x3, .int x4, .int x5, .retAddr 0] [] (hp nS M) Q = am_Wp d 59 0 [.ref 187, .int 23] [] (hp nS M) (fun v h1 => am_Wp (d + 1) 62 108 [.ref 187, .ref 18, .int x2, .int x3, .int x4, .int x5, .retAddr 0] (am_ans v []) h1 Q) := by
  refine (eq_run 2 (q := (105, [.ref 187, .ref 18, .int x2, .int x3, .int x4, .int x5, .retAddr 0], [.int 23, .ref 187], hp nS M)) (by with_unfolding_all rfl)).trans ?_
  exact eq_call2 (e := (.invokevirtual 85, 3, 0, 59, 112)) (as := [.ref 187, .int 23]) (r := []) (n := 2) (m := 2) (by with_unfolding_all rfl) rfl (by decide) (by with_unfolding_all rfl) (by decide) (by with_unfolding_all rfl) ⟨fun _ => am_rec_ok (c := 8) (by with_unfolding_all rfl) (by decide +kernel), fun z => by simp at z⟩
set_option maxRecDepth 20000 in
theorem b_62_108 {d nS : Nat} {x2 x3 x4 x5 s0 : Int32} {M : am_M} {Q : Option Value → am_H → Prop} : am_Wp d 62 108 [.ref 187, .ref 18, .int x2, .int x3, .int x4, .int x5, .retAddr 0] [.int s0] (hp nS M) Q = if ¬ s0 = 0 then am_Wp d 62 113 [.ref 187, .ref 18, .int x2, .int x3, .int x4, .int x5, .retAddr 0] [] (hp nS M) Q else am_Wp d 62 111 [.ref 187, .ref 18, .int x2, .int x3, .int x4, .int x5, .retAddr 0] [] (hp nS M) Q := by
  exact eq_if_ne (by with_unfolding_all rfl)
set_option maxRecDepth 20000 in
theorem b_62_111 {d nS : Nat} {x2 x3 x4 x5 : Int32} {M : am_M} {Q : Option Value → am_H → Prop} : am_Wp d 62 111 [.ref 187, .ref 18, .int x2, .int x3, .int x4, .int x5, .retAddr 0] [] (hp nS M) Q = Q (some (.int 0)) (hp nS M) := by
  refine (eq_run 1 (q := (112, [.ref 187, .ref 18, .int x2, .int x3, .int x4, .int x5, .retAddr 0], [.int 0], hp nS M)) (by with_unfolding_all rfl)).trans ?_
  exact eq_retI2 (e := (.ireturn, 1, 0, 0, 0)) (t := .boolean) (by with_unfolding_all rfl) rfl (by with_unfolding_all rfl) rfl
set_option maxRecDepth 20000 in
theorem b_62_113 {d nS : Nat} {x2 x3 x4 x5 : Int32} {M : am_M} {Q : Option Value → am_H → Prop} : am_Wp (d + 1) 62 113 [.ref 187, .ref 18, .int x2, .int x3, .int x4, .int x5, .retAddr 0] [] (hp nS M) Q = am_Wp d 61 0 [.ref 187, .int 0, .int ((M 18 1) - 1), .retAddr 0] [] (hp nS M) (fun v h1 => am_Wp (d + 1) 62 124 [.ref 187, .ref 18, .int x2, .int x3, .int x4, .int x5, .retAddr 0] (am_ans v []) h1 Q) := by
  refine (eq_run 6 (q := (121, [.ref 187, .ref 18, .int x2, .int x3, .int x4, .int x5, .retAddr 0], [.int ((M 18 1) - 1), .int 0, .ref 187], hp nS M)) (by with_unfolding_all rfl)).trans ?_
  exact eq_call2 (e := (.invokevirtual 132, 3, 0, 61, 123)) (as := [.ref 187, .int 0, .int ((M 18 1) - 1)]) (r := []) (n := 3) (m := 4) (by with_unfolding_all rfl) rfl (by decide) (by with_unfolding_all rfl) (by decide) (by with_unfolding_all rfl) ⟨fun _ => am_rec_ok (c := 8) (by with_unfolding_all rfl) (by decide +kernel), fun z => by simp at z⟩
set_option maxRecDepth 20000 in
theorem b_62_124 {d nS : Nat} {x2 x3 x4 x5 s0 : Int32} {M : am_M} {Q : Option Value → am_H → Prop} : am_Wp (d + 1) 62 124 [.ref 187, .ref 18, .int x2, .int x3, .int x4, .int x5, .retAddr 0] [.int s0] (hp nS M) Q = am_Wp d 34 0 [.ref 196, .int x2, .int x3, .int x4, .int x5, .int s0, .retAddr 0] [] (hp nS M) (fun v h1 => am_Wp (d + 1) 62 141 [.ref 187, .ref 18, .int x2, .int x3, .int x4, .int x5, .int s0] (am_ans v []) h1 Q) := by
  refine (eq_run 8 (q := (138, [.ref 187, .ref 18, .int x2, .int x3, .int x4, .int x5, .int s0], [.int s0, .int x5, .int x4, .int x3, .int x2, .ref 196], hp nS M)) (by with_unfolding_all rfl)).trans ?_
  exact eq_call2 (e := (.invokevirtual 140, 3, 0, 34, 124)) (as := [.ref 196, .int x2, .int x3, .int x4, .int x5, .int s0]) (r := []) (n := 6) (m := 7) (by with_unfolding_all rfl) rfl (by decide) (by with_unfolding_all rfl) (by decide) (by with_unfolding_all rfl) ⟨fun _ => am_rec_ok (c := 6) (by with_unfolding_all rfl) (by decide +kernel), fun z => by simp at z⟩
set_option maxRecDepth 20000 in
theorem b_62_141 {d nS : Nat} {x2 x3 x4 x5 x6 : Int32} {M : am_M} {Q : Option Value → am_H → Prop} : am_Wp d 62 141 [.ref 187, .ref 18, .int x2, .int x3, .int x4, .int x5, .int x6] [] (hp nS M) Q = if x6 < 0 then am_Wp d 62 150 [.ref 187, .ref 18, .int x2, .int x3, .int x4, .int x5, .int x6] [] (hp nS M) Q else am_Wp d 62 146 [.ref 187, .ref 18, .int x2, .int x3, .int x4, .int x5, .int x6] [] (hp nS M) Q := by
  refine (eq_run 1 (q := (143, [.ref 187, .ref 18, .int x2, .int x3, .int x4, .int x5, .int x6], [.int x6], hp nS M)) (by with_unfolding_all rfl)).trans ?_
  exact eq_if_lt (by with_unfolding_all rfl)
set_option maxRecDepth 20000 in
theorem b_62_146 {d nS : Nat} {x2 x3 x4 x5 x6 : Int32} {M : am_M} {Q : Option Value → am_H → Prop} : am_Wp d 62 146 [.ref 187, .ref 18, .int x2, .int x3, .int x4, .int x5, .int x6] [] (hp nS M) Q = am_Wp d 62 151 [.ref 187, .ref 18, .int x2, .int x3, .int x4, .int x5, .int x6] [.int 1] (hp nS M) Q := by
  exact eq_run 2 (q := (151, [.ref 187, .ref 18, .int x2, .int x3, .int x4, .int x5, .int x6], [.int 1], hp nS M)) (by with_unfolding_all rfl)
set_option maxRecDepth 20000 in
theorem b_62_150 {d nS : Nat} {x2 x3 x4 x5 x6 : Int32} {M : am_M} {Q : Option Value → am_H → Prop} : am_Wp d 62 150 [.ref 187, .ref 18, .int x2, .int x3, .int x4, .int x5, .int x6] [] (hp nS M) Q = am_Wp d 62 151 [.ref 187, .ref 18, .int x2, .int x3, .int x4, .int x5, .int x6] [.int 0] (hp nS M) Q := by
  exact eq_run 1 (q := (151, [.ref 187, .ref 18, .int x2, .int x3, .int x4, .int x5, .int x6], [.int 0], hp nS M)) (by with_unfolding_all rfl)
set_option maxRecDepth 20000 in
theorem b_62_151 {d nS : Nat} {x2 x3 x4 x5 x6 s0 : Int32} {M : am_M} {Q : Option Value → am_H → Prop} (h1 : am_rok .boolean s0 = true) : am_Wp d 62 151 [.ref 187, .ref 18, .int x2, .int x3, .int x4, .int x5, .int x6] [.int s0] (hp nS M) Q = Q (some (.int s0)) (hp nS M) := by
  exact eq_retI2 (e := (.ireturn, 1, 0, 0, 0)) (t := .boolean) (by with_unfolding_all rfl) rfl (by with_unfolding_all rfl) h1
-- LarkExchange$Reader readsBound(LLarkExchange$World;)Z (63, (187, 18))
set_option maxRecDepth 20000 in
theorem b_63_0 {d nS : Nat} {M : am_M} {Q : Option Value → am_H → Prop} : am_Wp (d + 1) 63 0 [.ref 187, .ref 18, .retAddr 0, .retAddr 0] [] (hp nS M) Q = am_Wp d 61 0 [.ref 187, .int 0, .int (((am_up M 187 10 ((M 187 10) + 1)) 18 1) - 1), .retAddr 0] [] (hp nS (am_up M 187 10 ((M 187 10) + 1))) (fun v h1 => am_Wp (d + 1) 63 21 [.ref 187, .ref 18, .retAddr 0, .retAddr 0] (am_ans v []) h1 Q) := by
  refine (eq_run 12 (q := (18, [.ref 187, .ref 18, .retAddr 0, .retAddr 0], [.int (((am_up M 187 10 ((M 187 10) + 1)) 18 1) - 1), .int 0, .ref 187], hp nS (am_up M 187 10 ((M 187 10) + 1)))) (by with_unfolding_all rfl)).trans ?_
  exact eq_call2 (e := (.invokevirtual 132, 3, 0, 61, 123)) (as := [.ref 187, .int 0, .int (((am_up M 187 10 ((M 187 10) + 1)) 18 1) - 1)]) (r := []) (n := 3) (m := 4) (by with_unfolding_all rfl) rfl (by decide) (by with_unfolding_all rfl) (by decide) (by with_unfolding_all rfl) ⟨fun _ => am_rec_ok (c := 8) (by with_unfolding_all rfl) (by decide +kernel), fun z => by simp at z⟩
set_option maxRecDepth 20000 in
theorem b_63_21 {d nS : Nat} {s0 : Int32} {M : am_M} {Q : Option Value → am_H → Prop} : am_Wp d 63 21 [.ref 187, .ref 18, .retAddr 0, .retAddr 0] [.int s0] (hp nS M) Q = if s0 < 0 then am_Wp d 63 35 [.ref 187, .ref 18, .int s0, .retAddr 0] [] (hp nS M) Q else am_Wp d 63 26 [.ref 187, .ref 18, .int s0, .retAddr 0] [] (hp nS M) Q := by
  refine (eq_run 2 (q := (23, [.ref 187, .ref 18, .int s0, .retAddr 0], [.int s0], hp nS M)) (by with_unfolding_all rfl)).trans ?_
  exact eq_if_lt (by with_unfolding_all rfl)
set_option maxRecDepth 20000 in
theorem b_63_26 {d nS : Nat} {x2 : Int32} {M : am_M} {Q : Option Value → am_H → Prop} : am_Wp (d + 1) 63 26 [.ref 187, .ref 18, .int x2, .retAddr 0] [] (hp nS M) Q = am_Wp d 59 0 [.ref 187, .int 25] [] (hp nS M) (fun v h1 => am_Wp (d + 1) 63 32 [.ref 187, .ref 18, .int x2, .retAddr 0] (am_ans v []) h1 Q) := by
  refine (eq_run 2 (q := (29, [.ref 187, .ref 18, .int x2, .retAddr 0], [.int 25, .ref 187], hp nS M)) (by with_unfolding_all rfl)).trans ?_
  exact eq_call2 (e := (.invokevirtual 85, 3, 0, 59, 112)) (as := [.ref 187, .int 25]) (r := []) (n := 2) (m := 2) (by with_unfolding_all rfl) rfl (by decide) (by with_unfolding_all rfl) (by decide) (by with_unfolding_all rfl) ⟨fun _ => am_rec_ok (c := 8) (by with_unfolding_all rfl) (by decide +kernel), fun z => by simp at z⟩
set_option maxRecDepth 20000 in
theorem b_63_32 {d nS : Nat} {x2 s0 : Int32} {M : am_M} {Q : Option Value → am_H → Prop} : am_Wp d 63 32 [.ref 187, .ref 18, .int x2, .retAddr 0] [.int s0] (hp nS M) Q = if ¬ s0 = 0 then am_Wp d 63 37 [.ref 187, .ref 18, .int x2, .retAddr 0] [] (hp nS M) Q else am_Wp d 63 35 [.ref 187, .ref 18, .int x2, .retAddr 0] [] (hp nS M) Q := by
  exact eq_if_ne (by with_unfolding_all rfl)
set_option maxRecDepth 20000 in
theorem b_63_35 {d nS : Nat} {x2 : Int32} {M : am_M} {Q : Option Value → am_H → Prop} : am_Wp d 63 35 [.ref 187, .ref 18, .int x2, .retAddr 0] [] (hp nS M) Q = Q (some (.int 0)) (hp nS M) := by
  refine (eq_run 1 (q := (36, [.ref 187, .ref 18, .int x2, .retAddr 0], [.int 0], hp nS M)) (by with_unfolding_all rfl)).trans ?_
  exact eq_retI2 (e := (.ireturn, 1, 0, 0, 0)) (t := .boolean) (by with_unfolding_all rfl) rfl (by with_unfolding_all rfl) rfl
set_option maxRecDepth 20000 in
theorem b_63_37 {d nS : Nat} {x2 : Int32} {M : am_M} {Q : Option Value → am_H → Prop} : am_Wp (d + 1) 63 37 [.ref 187, .ref 18, .int x2, .retAddr 0] [] (hp nS M) Q = am_Wp d 61 0 [.ref 187, .int 0, .int ((M 18 0) - 1), .retAddr 0] [] (hp nS M) (fun v h1 => am_Wp (d + 1) 63 48 [.ref 187, .ref 18, .int x2, .retAddr 0] (am_ans v []) h1 Q) := by
  refine (eq_run 6 (q := (45, [.ref 187, .ref 18, .int x2, .retAddr 0], [.int ((M 18 0) - 1), .int 0, .ref 187], hp nS M)) (by with_unfolding_all rfl)).trans ?_
  exact eq_call2 (e := (.invokevirtual 132, 3, 0, 61, 123)) (as := [.ref 187, .int 0, .int ((M 18 0) - 1)]) (r := []) (n := 3) (m := 4) (by with_unfolding_all rfl) rfl (by decide) (by with_unfolding_all rfl) (by decide) (by with_unfolding_all rfl) ⟨fun _ => am_rec_ok (c := 8) (by with_unfolding_all rfl) (by decide +kernel), fun z => by simp at z⟩
set_option maxRecDepth 20000 in
theorem b_63_48 {d nS : Nat} {x2 s0 : Int32} {M : am_M} {Q : Option Value → am_H → Prop} : am_Wp (d + 1) 63 48 [.ref 187, .ref 18, .int x2, .retAddr 0] [.int s0] (hp nS M) Q = am_Wp d 34 0 [.ref 196, .int x2, .int s0, .int 0, .int 0, .int 0, .retAddr 0] [] (hp nS M) (fun v h1 => am_Wp (d + 1) 63 61 [.ref 187, .ref 18, .int x2, .int s0] (am_ans v []) h1 Q) := by
  refine (eq_run 8 (q := (58, [.ref 187, .ref 18, .int x2, .int s0], [.int 0, .int 0, .int 0, .int s0, .int x2, .ref 196], hp nS M)) (by with_unfolding_all rfl)).trans ?_
  exact eq_call2 (e := (.invokevirtual 140, 3, 0, 34, 124)) (as := [.ref 196, .int x2, .int s0, .int 0, .int 0, .int 0]) (r := []) (n := 6) (m := 7) (by with_unfolding_all rfl) rfl (by decide) (by with_unfolding_all rfl) (by decide) (by with_unfolding_all rfl) ⟨fun _ => am_rec_ok (c := 6) (by with_unfolding_all rfl) (by decide +kernel), fun z => by simp at z⟩
set_option maxRecDepth 20000 in
theorem b_63_61 {d nS : Nat} {x2 x3 : Int32} {M : am_M} {Q : Option Value → am_H → Prop} : am_Wp d 63 61 [.ref 187, .ref 18, .int x2, .int x3] [] (hp nS M) Q = if x3 < 0 then am_Wp d 63 69 [.ref 187, .ref 18, .int x2, .int x3] [] (hp nS M) Q else am_Wp d 63 65 [.ref 187, .ref 18, .int x2, .int x3] [] (hp nS M) Q := by
  refine (eq_run 1 (q := (62, [.ref 187, .ref 18, .int x2, .int x3], [.int x3], hp nS M)) (by with_unfolding_all rfl)).trans ?_
  exact eq_if_lt (by with_unfolding_all rfl)
set_option maxRecDepth 20000 in
theorem b_63_65 {d nS : Nat} {x2 x3 : Int32} {M : am_M} {Q : Option Value → am_H → Prop} : am_Wp d 63 65 [.ref 187, .ref 18, .int x2, .int x3] [] (hp nS M) Q = am_Wp d 63 70 [.ref 187, .ref 18, .int x2, .int x3] [.int 1] (hp nS M) Q := by
  exact eq_run 2 (q := (70, [.ref 187, .ref 18, .int x2, .int x3], [.int 1], hp nS M)) (by with_unfolding_all rfl)
set_option maxRecDepth 20000 in
theorem b_63_69 {d nS : Nat} {x2 x3 : Int32} {M : am_M} {Q : Option Value → am_H → Prop} : am_Wp d 63 69 [.ref 187, .ref 18, .int x2, .int x3] [] (hp nS M) Q = am_Wp d 63 70 [.ref 187, .ref 18, .int x2, .int x3] [.int 0] (hp nS M) Q := by
  exact eq_run 1 (q := (70, [.ref 187, .ref 18, .int x2, .int x3], [.int 0], hp nS M)) (by with_unfolding_all rfl)
set_option maxRecDepth 20000 in
theorem b_63_70 {d nS : Nat} {x2 x3 s0 : Int32} {M : am_M} {Q : Option Value → am_H → Prop} (h1 : am_rok .boolean s0 = true) : am_Wp d 63 70 [.ref 187, .ref 18, .int x2, .int x3] [.int s0] (hp nS M) Q = Q (some (.int s0)) (hp nS M) := by
  exact eq_retI2 (e := (.ireturn, 1, 0, 0, 0)) (t := .boolean) (by with_unfolding_all rfl) rfl (by with_unfolding_all rfl) h1
