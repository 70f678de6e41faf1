-- lawTells(IIII)I
set_option maxRecDepth 20000 in
theorem b_234_0 {d nS : Nat} {x1 x2 x3 x4 : Int32} {M : am_M} {Q : Option Value → am_H → Prop} : am_Wp (d + 1) 234 0 [.ref 205, .int x1, .int x2, .int x3, .int x4, .retAddr 0] [] (hp nS M) Q = am_Wp d 235 0 [.ref 205, .int x1, .retAddr 0] [] (hp nS M) (fun v h1 => am_Wp (d + 1) 234 5 [.ref 205, .int x1, .int x2, .int x3, .int x4, .retAddr 0] (am_ans v []) h1 Q) := by
  refine (eq_run 2 (q := (2, [.ref 205, .int x1, .int x2, .int x3, .int x4, .retAddr 0], [.int x1, .ref 205], hp nS M)) (by with_unfolding_all rfl)).trans ?_
  exact eq_call2 (e := (.invokevirtual 323, 3, 0, 235, 317)) (as := [.ref 205, .int x1]) (r := []) (n := 2) (m := 3) (by with_unfolding_all rfl) rfl (by decide) (by with_unfolding_all rfl) (by decide) (by with_unfolding_all rfl) ⟨fun _ => am_rec_ok (c := 14) (by with_unfolding_all rfl) (by decide +kernel), fun z => by simp at z⟩
set_option maxRecDepth 20000 in
theorem b_234_5 {d nS : Nat} {x1 x2 x3 x4 s0 : Int32} {M : am_M} {Q : Option Value → am_H → Prop} : am_Wp d 234 5 [.ref 205, .int x1, .int x2, .int x3, .int x4, .retAddr 0] [.int s0] (hp nS M) Q = if ¬ s0 = (-1) then am_Wp d 234 18 [.ref 205, .int x1, .int x2, .int x3, .int x4, .int s0] [.ref 205] (hp nS M) Q else am_Wp d 234 14 [.ref 205, .int x1, .int x2, .int x3, .int x4, .int s0] [.ref 205] (hp nS M) Q := by
  refine (eq_run 4 (q := (11, [.ref 205, .int x1, .int x2, .int x3, .int x4, .int s0], [.int (-1), .int s0, .ref 205], hp nS M)) (by with_unfolding_all rfl)).trans ?_
  exact eq_cmp_ne (by with_unfolding_all rfl)
set_option maxRecDepth 20000 in
theorem b_234_14 {d nS : Nat} {x1 x2 x3 x4 x5 : Int32} {M : am_M} {Q : Option Value → am_H → Prop} : am_Wp d 234 14 [.ref 205, .int x1, .int x2, .int x3, .int x4, .int x5] [.ref 205] (hp nS M) Q = am_Wp d 234 37 [.ref 205, .int x1, .int x2, .int x3, .int x4, .int x5] [.int x2, .ref 205] (hp nS M) Q := by
  exact eq_run 2 (q := (37, [.ref 205, .int x1, .int x2, .int x3, .int x4, .int x5], [.int x2, .ref 205], hp nS M)) (by with_unfolding_all rfl)
set_option maxRecDepth 20000 in
theorem b_234_18 {d nS : Nat} {x1 x2 x3 x4 x5 : Int32} {M : am_M} {Q : Option Value → am_H → Prop} (h1 : vp_in x5 48) (h2 : vp_in x5 48) : am_Wp (d + 1) 234 18 [.ref 205, .int x1, .int x2, .int x3, .int x4, .int x5] [.ref 205] (hp nS M) Q = am_Wp d 236 0 [.ref 205, .int 0, .int (M 216 x5.toNatClampNeg), .int (M 217 x5.toNatClampNeg), .retAddr 0, .retAddr 0] [] (hp nS M) (fun v h1 => am_Wp (d + 1) 234 37 [.ref 205, .int x1, .int x2, .int x3, .int x4, .int x5] (am_ans v [.ref 205]) h1 Q) := by
  refine (eq_run 5 (q := (26, [.ref 205, .int x1, .int x2, .int x3, .int x4, .int x5], [.int x5, .ref 216, .int 0, .ref 205, .ref 205], hp nS M)) (by with_unfolding_all rfl)).trans ?_
  refine (eq_ald (e := (.iaload, 1, 0, 0, 0)) (by with_unfolding_all rfl) rfl (n := 48) (by with_unfolding_all rfl) h1).trans ?_
  refine (eq_run 3 (q := (33, [.ref 205, .int x1, .int x2, .int x3, .int x4, .int x5], [.int x5, .ref 217, .int (M 216 x5.toNatClampNeg), .int 0, .ref 205, .ref 205], hp nS M)) (by with_unfolding_all rfl)).trans ?_
  refine (eq_ald (e := (.iaload, 1, 0, 0, 0)) (by with_unfolding_all rfl) rfl (n := 48) (by with_unfolding_all rfl) h2).trans ?_
  exact eq_call2 (e := (.invokevirtual 320, 3, 0, 236, 316)) (as := [.ref 205, .int 0, .int (M 216 x5.toNatClampNeg), .int (M 217 x5.toNatClampNeg)]) (r := [.ref 205]) (n := 4) (m := 6) (by with_unfolding_all rfl) rfl (by decide) (by with_unfolding_all rfl) (by decide) (by with_unfolding_all rfl) ⟨fun _ => am_rec_ok (c := 14) (by with_unfolding_all rfl) (by decide +kernel), fun z => by simp at z⟩
set_option maxRecDepth 20000 in
theorem b_234_37 {d nS : Nat} {x1 x2 x3 x4 x5 s1 : Int32} {M : am_M} {Q : Option Value → am_H → Prop} : am_Wp (d + 1) 234 37 [.ref 205, .int x1, .int x2, .int x3, .int x4, .int x5] [.int s1, .ref 205] (hp nS M) Q = am_Wp d 238 0 [.ref 205, .int s1, .int x3, .int x4] [] (hp nS M) (fun v h1 => am_Wp (d + 1) 234 43 [.ref 205, .int x1, .int x2, .int x3, .int x4, .int x5] (am_ans v []) h1 Q) := by
  refine (eq_run 2 (q := (40, [.ref 205, .int x1, .int x2, .int x3, .int x4, .int x5], [.int x4, .int x3, .int s1, .ref 205], hp nS M)) (by with_unfolding_all rfl)).trans ?_
  exact eq_call2 (e := (.invokevirtual 326, 3, 0, 238, 318)) (as := [.ref 205, .int s1, .int x3, .int x4]) (r := []) (n := 4) (m := 4) (by with_unfolding_all rfl) rfl (by decide) (by with_unfolding_all rfl) (by decide) (by with_unfolding_all rfl) ⟨fun _ => am_rec_ok (c := 14) (by with_unfolding_all rfl) (by decide +kernel), fun z => by simp at z⟩
set_option maxRecDepth 20000 in
theorem b_234_43 {d nS : Nat} {x1 x2 x3 x4 x5 s0 : Int32} {M : am_M} {Q : Option Value → am_H → Prop} : am_Wp d 234 43 [.ref 205, .int x1, .int x2, .int x3, .int x4, .int x5] [.int s0] (hp nS M) Q = Q (some (.int s0)) (hp nS M) := by
  exact eq_retI2 (e := (.ireturn, 1, 0, 0, 0)) (t := .int) (by with_unfolding_all rfl) rfl (by with_unfolding_all rfl) rfl
-- lineOf(I)I
set_option maxRecDepth 20000 in
theorem b_235_0 {d nS : Nat} {x1 : Int32} {M : am_M} {Q : Option Value → am_H → Prop} : am_Wp d 235 0 [.ref 205, .int x1, .retAddr 0] [] (hp nS M) Q = am_Wp d 235 2 [.ref 205, .int x1, .int 0] [] (hp nS M) Q := by
  exact eq_run 2 (q := (2, [.ref 205, .int x1, .int 0], [], hp nS M)) (by with_unfolding_all rfl)
set_option maxRecDepth 20000 in
theorem b_235_2 {d nS : Nat} {x1 x2 : Int32} {M : am_M} {Q : Option Value → am_H → Prop} : am_Wp d 235 2 [.ref 205, .int x1, .int x2] [] (hp nS M) Q = if (M 214 0) ≤ x2 then am_Wp d 235 65 [.ref 205, .int x1, .int x2] [] (hp nS M) Q else am_Wp d 235 12 [.ref 205, .int x1, .int x2] [] (hp nS M) Q := by
  refine (eq_run 5 (q := (9, [.ref 205, .int x1, .int x2], [.int (M 214 0), .int x2], hp nS M)) (by with_unfolding_all rfl)).trans ?_
  exact eq_cmp_ge (by with_unfolding_all rfl)
set_option maxRecDepth 20000 in
theorem b_235_12 {d nS : Nat} {x1 x2 : Int32} {M : am_M} {Q : Option Value → am_H → Prop} (h1 : vp_in x2 48) : am_Wp d 235 12 [.ref 205, .int x1, .int x2] [] (hp nS M) Q = if ¬ (M 215 x2.toNatClampNeg) = x1 then am_Wp d 235 59 [.ref 205, .int x1, .int x2] [] (hp nS M) Q else am_Wp d 235 22 [.ref 205, .int x1, .int x2] [] (hp nS M) Q := by
  refine (eq_run 3 (q := (17, [.ref 205, .int x1, .int x2], [.int x2, .ref 215], hp nS M)) (by with_unfolding_all rfl)).trans ?_
  refine (eq_ald (e := (.iaload, 1, 0, 0, 0)) (by with_unfolding_all rfl) rfl (n := 48) (by with_unfolding_all rfl) h1).trans ?_
  refine (eq_run 1 (q := (19, [.ref 205, .int x1, .int x2], [.int x1, .int (M 215 x2.toNatClampNeg)], hp nS M)) (by with_unfolding_all rfl)).trans ?_
  exact eq_cmp_ne (by with_unfolding_all rfl)
set_option maxRecDepth 20000 in
theorem b_235_22 {d nS : Nat} {x1 x2 : Int32} {M : am_M} {Q : Option Value → am_H → Prop} (h1 : vp_in x2 48) (h2 : vp_in x2 48) : am_Wp d 235 22 [.ref 205, .int x1, .int x2] [] (hp nS M) Q = if (M 217 x2.toNatClampNeg) = (M 218 x2.toNatClampNeg) then am_Wp d 235 57 [.ref 205, .int x1, .int x2] [] (hp nS M) Q else am_Wp d 235 37 [.ref 205, .int x1, .int x2] [] (hp nS M) Q := by
  refine (eq_run 3 (q := (27, [.ref 205, .int x1, .int x2], [.int x2, .ref 217], hp nS M)) (by with_unfolding_all rfl)).trans ?_
  refine (eq_ald (e := (.iaload, 1, 0, 0, 0)) (by with_unfolding_all rfl) rfl (n := 48) (by with_unfolding_all rfl) h1).trans ?_
  refine (eq_run 3 (q := (33, [.ref 205, .int x1, .int x2], [.int x2, .ref 218, .int (M 217 x2.toNatClampNeg)], hp nS M)) (by with_unfolding_all rfl)).trans ?_
  refine (eq_ald (e := (.iaload, 1, 0, 0, 0)) (by with_unfolding_all rfl) rfl (n := 48) (by with_unfolding_all rfl) h2).trans ?_
  exact eq_cmp_eq (by with_unfolding_all rfl)
set_option maxRecDepth 20000 in
theorem b_235_37 {d nS : Nat} {x1 x2 : Int32} {M : am_M} {Q : Option Value → am_H → Prop} (h1 : vp_in x2 48) (h2 : vp_in x2 48) : am_Wp (d + 1) 235 37 [.ref 205, .int x1, .int x2] [] (hp nS M) Q = am_Wp d 236 0 [.ref 205, .int 0, .int (M 217 x2.toNatClampNeg), .int (M 218 x2.toNatClampNeg), .retAddr 0, .retAddr 0] [] (hp nS M) (fun v h1 => am_Wp (d + 1) 235 54 [.ref 205, .int x1, .int x2] (am_ans v []) h1 Q) := by
  refine (eq_run 5 (q := (44, [.ref 205, .int x1, .int x2], [.int x2, .ref 217, .int 0, .ref 205], hp nS M)) (by with_unfolding_all rfl)).trans ?_
  refine (eq_ald (e := (.iaload, 1, 0, 0, 0)) (by with_unfolding_all rfl) rfl (n := 48) (by with_unfolding_all rfl) h1).trans ?_
  refine (eq_run 3 (q := (50, [.ref 205, .int x1, .int x2], [.int x2, .ref 218, .int (M 217 x2.toNatClampNeg), .int 0, .ref 205], hp nS M)) (by with_unfolding_all rfl)).trans ?_
  refine (eq_ald (e := (.iaload, 1, 0, 0, 0)) (by with_unfolding_all rfl) rfl (n := 48) (by with_unfolding_all rfl) h2).trans ?_
  exact eq_call2 (e := (.invokevirtual 320, 3, 0, 236, 316)) (as := [.ref 205, .int 0, .int (M 217 x2.toNatClampNeg), .int (M 218 x2.toNatClampNeg)]) (r := []) (n := 4) (m := 6) (by with_unfolding_all rfl) rfl (by decide) (by with_unfolding_all rfl) (by decide) (by with_unfolding_all rfl) ⟨fun _ => am_rec_ok (c := 14) (by with_unfolding_all rfl) (by decide +kernel), fun z => by simp at z⟩
set_option maxRecDepth 20000 in
theorem b_235_54 {d nS : Nat} {x1 x2 s0 : Int32} {M : am_M} {Q : Option Value → am_H → Prop} : am_Wp d 235 54 [.ref 205, .int x1, .int x2] [.int s0] (hp nS M) Q = if s0 = 0 then am_Wp d 235 59 [.ref 205, .int x1, .int x2] [] (hp nS M) Q else am_Wp d 235 57 [.ref 205, .int x1, .int x2] [] (hp nS M) Q := by
  exact eq_if_eq (by with_unfolding_all rfl)
set_option maxRecDepth 20000 in
theorem b_235_57 {d nS : Nat} {x1 x2 : Int32} {M : am_M} {Q : Option Value → am_H → Prop} : am_Wp d 235 57 [.ref 205, .int x1, .int x2] [] (hp nS M) Q = Q (some (.int x2)) (hp nS M) := by
  refine (eq_run 1 (q := (58, [.ref 205, .int x1, .int x2], [.int x2], hp nS M)) (by with_unfolding_all rfl)).trans ?_
  exact eq_retI2 (e := (.ireturn, 1, 0, 0, 0)) (t := .int) (by with_unfolding_all rfl) rfl (by with_unfolding_all rfl) rfl
set_option maxRecDepth 20000 in
theorem b_235_59 {d nS : Nat} {x1 x2 : Int32} {M : am_M} {Q : Option Value → am_H → Prop} : am_Wp d 235 59 [.ref 205, .int x1, .int x2] [] (hp nS M) Q = am_Wp d 235 2 [.ref 205, .int x1, .int (x2 + 1)] [] (hp nS M) Q := by
  exact eq_run 2 (q := (2, [.ref 205, .int x1, .int (x2 + 1)], [], hp nS M)) (by with_unfolding_all rfl)
set_option maxRecDepth 20000 in
theorem b_235_65 {d nS : Nat} {x1 x2 : Int32} {M : am_M} {Q : Option Value → am_H → Prop} : am_Wp d 235 65 [.ref 205, .int x1, .int x2] [] (hp nS M) Q = Q (some (.int (-1))) (hp nS M) := by
  refine (eq_run 1 (q := (66, [.ref 205, .int x1, .int x2], [.int (-1)], hp nS M)) (by with_unfolding_all rfl)).trans ?_
  exact eq_retI2 (e := (.ireturn, 1, 0, 0, 0)) (t := .int) (by with_unfolding_all rfl) rfl (by with_unfolding_all rfl) rfl
-- runs(III)I
set_option maxRecDepth 20000 in
theorem b_236_0 {d nS : Nat} {x1 x2 x3 : Int32} {M : am_M} {Q : Option Value → am_H → Prop} : am_Wp d 236 0 [.ref 205, .int x1, .int x2, .int x3, .retAddr 0, .retAddr 0] [] (hp nS M) Q = am_Wp d 236 12 [.ref 205, .int x1, .int x2, .int x3, .int 0, .int ((400 * x1) + x2)] [] (hp nS M) Q := by
  exact eq_run 8 (q := (12, [.ref 205, .int x1, .int x2, .int x3, .int 0, .int ((400 * x1) + x2)], [], hp nS M)) (by with_unfolding_all rfl)
set_option maxRecDepth 20000 in
theorem b_236_12 {d nS : Nat} {x1 x2 x3 x4 x5 : Int32} {M : am_M} {Q : Option Value → am_H → Prop} : am_Wp d 236 12 [.ref 205, .int x1, .int x2, .int x3, .int x4, .int x5] [] (hp nS M) Q = if ((400 * x1) + x3) ≤ x5 then am_Wp d 236 176 [.ref 205, .int x1, .int x2, .int x3, .int x4, .int x5] [] (hp nS M) Q else am_Wp d 236 24 [.ref 205, .int x1, .int x2, .int x3, .int x4, .int x5] [] (hp nS M) Q := by
  refine (eq_run 6 (q := (21, [.ref 205, .int x1, .int x2, .int x3, .int x4, .int x5], [.int ((400 * x1) + x3), .int x5], hp nS M)) (by with_unfolding_all rfl)).trans ?_
  exact eq_cmp_ge (by with_unfolding_all rfl)
set_option maxRecDepth 20000 in
theorem b_236_24 {d nS : Nat} {x1 x2 x3 x4 x5 : Int32} {M : am_M} {Q : Option Value → am_H → Prop} (h1 : vp_in x5 1200) : am_Wp d 236 24 [.ref 205, .int x1, .int x2, .int x3, .int x4, .int x5] [] (hp nS M) Q = if (M 219 x5.toNatClampNeg) = 0 then am_Wp d 236 45 [.ref 205, .int x1, .int x2, .int x3, .int x4, .int x5] [] (hp nS M) Q else am_Wp d 236 34 [.ref 205, .int x1, .int x2, .int x3, .int x4, .int x5] [] (hp nS M) Q := by
  refine (eq_run 3 (q := (30, [.ref 205, .int x1, .int x2, .int x3, .int x4, .int x5], [.int x5, .ref 219], hp nS M)) (by with_unfolding_all rfl)).trans ?_
  refine (eq_ald (e := (.iaload, 1, 0, 0, 0)) (by with_unfolding_all rfl) rfl (n := 1200) (by with_unfolding_all rfl) h1).trans ?_
  exact eq_if_eq (by with_unfolding_all rfl)
set_option maxRecDepth 20000 in
theorem b_236_34 {d nS : Nat} {x1 x2 x3 x4 x5 : Int32} {M : am_M} {Q : Option Value → am_H → Prop} (h1 : vp_in x5 1200) : am_Wp d 236 34 [.ref 205, .int x1, .int x2, .int x3, .int x4, .int x5] [] (hp nS M) Q = if ¬ (M 219 x5.toNatClampNeg) = 1 then am_Wp d 236 93 [.ref 205, .int x1, .int x2, .int x3, .int x4, .int x5] [] (hp nS M) Q else am_Wp d 236 45 [.ref 205, .int x1, .int x2, .int x3, .int x4, .int x5] [] (hp nS M) Q := by
  refine (eq_run 3 (q := (40, [.ref 205, .int x1, .int x2, .int x3, .int x4, .int x5], [.int x5, .ref 219], hp nS M)) (by with_unfolding_all rfl)).trans ?_
  refine (eq_ald (e := (.iaload, 1, 0, 0, 0)) (by with_unfolding_all rfl) rfl (n := 1200) (by with_unfolding_all rfl) h1).trans ?_
  refine (eq_run 1 (q := (42, [.ref 205, .int x1, .int x2, .int x3, .int x4, .int x5], [.int 1, .int (M 219 x5.toNatClampNeg)], hp nS M)) (by with_unfolding_all rfl)).trans ?_
  exact eq_cmp_ne (by with_unfolding_all rfl)
set_option maxRecDepth 20000 in
theorem b_236_45 {d nS : Nat} {x1 x2 x3 x4 x5 : Int32} {M : am_M} {Q : Option Value → am_H → Prop} (h1 : vp_in x5 1200) : am_Wp d 236 45 [.ref 205, .int x1, .int x2, .int x3, .int x4, .int x5] [] (hp nS M) Q = if ¬ (M 219 x5.toNatClampNeg) = 0 then am_Wp d 236 71 [.ref 205, .int x1, .int x2, .int x3, .int x4, .int x5] [.int x4, .ref 226] (hp nS M) Q else am_Wp d 236 61 [.ref 205, .int x1, .int x2, .int x3, .int x4, .int x5] [.int x4, .ref 226] (hp nS M) Q := by
  refine (eq_run 6 (q := (57, [.ref 205, .int x1, .int x2, .int x3, .int x4, .int x5], [.int x5, .ref 219, .int x4, .ref 226], hp nS M)) (by with_unfolding_all rfl)).trans ?_
  refine (eq_ald (e := (.iaload, 1, 0, 0, 0)) (by with_unfolding_all rfl) rfl (n := 1200) (by with_unfolding_all rfl) h1).trans ?_
  exact eq_if_ne (by with_unfolding_all rfl)
set_option maxRecDepth 20000 in
theorem b_236_61 {d nS : Nat} {x1 x2 x3 x4 x5 s1 : Int32} {M : am_M} {Q : Option Value → am_H → Prop} (h1 : vp_in x5 1200) : am_Wp d 236 61 [.ref 205, .int x1, .int x2, .int x3, .int x4, .int x5] [.int s1, .ref 226] (hp nS M) Q = am_Wp d 236 83 [.ref 205, .int x1, .int x2, .int x3, .int x4, .int x5] [.int (M 220 x5.toNatClampNeg), .int s1, .ref 226] (hp nS M) Q := by
  refine (eq_run 3 (q := (67, [.ref 205, .int x1, .int x2, .int x3, .int x4, .int x5], [.int x5, .ref 220, .int s1, .ref 226], hp nS M)) (by with_unfolding_all rfl)).trans ?_
  refine (eq_ald (e := (.iaload, 1, 0, 0, 0)) (by with_unfolding_all rfl) rfl (n := 1200) (by with_unfolding_all rfl) h1).trans ?_
  exact eq_run 1 (q := (83, [.ref 205, .int x1, .int x2, .int x3, .int x4, .int x5], [.int (M 220 x5.toNatClampNeg), .int s1, .ref 226], hp nS M)) (by with_unfolding_all rfl)
set_option maxRecDepth 20000 in
theorem b_236_71 {d nS : Nat} {x1 x2 x3 x4 x5 s1 : Int32} {M : am_M} {Q : Option Value → am_H → Prop} (h1 : vp_in x5 1200) (h2 : vp_in (M 220 x5.toNatClampNeg) 9) : am_Wp d 236 71 [.ref 205, .int x1, .int x2, .int x3, .int x4, .int x5] [.int s1, .ref 226] (hp nS M) Q = am_Wp d 236 83 [.ref 205, .int x1, .int x2, .int x3, .int x4, .int x5] [.int (M 225 (M 220 x5.toNatClampNeg).toNatClampNeg), .int s1, .ref 226] (hp nS M) Q := by
  refine (eq_run 5 (q := (81, [.ref 205, .int x1, .int x2, .int x3, .int x4, .int x5], [.int x5, .ref 220, .ref 225, .int s1, .ref 226], hp nS M)) (by with_unfolding_all rfl)).trans ?_
  refine (eq_ald (e := (.iaload, 1, 0, 0, 0)) (by with_unfolding_all rfl) rfl (n := 1200) (by with_unfolding_all rfl) h1).trans ?_
  exact eq_ald (e := (.iaload, 1, 0, 0, 0)) (by with_unfolding_all rfl) rfl (n := 9) (by with_unfolding_all rfl) h2
set_option maxRecDepth 20000 in
theorem b_236_83 {d nS : Nat} {x1 x2 x3 x4 x5 s1 s2 : Int32} {M : am_M} {Q : Option Value → am_H → Prop} (h1 : vp_in s1 420) : am_Wp d 236 83 [.ref 205, .int x1, .int x2, .int x3, .int x4, .int x5] [.int s2, .int s1, .ref 226] (hp nS M) Q = am_Wp d 236 170 [.ref 205, .int x1, .int x2, .int x3, .int (x4 + 1), .int x5] [] (hp nS (am_up M 226 s1.toNatClampNeg s2)) Q := by
  refine (eq_ast (e := (.iastore, 1, 0, 0, 0)) (by with_unfolding_all rfl) rfl (n := 420) (by with_unfolding_all rfl) (by decide) h1).trans ?_
  exact eq_run 5 (q := (170, [.ref 205, .int x1, .int x2, .int x3, .int (x4 + 1), .int x5], [], hp nS (am_up M 226 s1.toNatClampNeg s2))) (by with_unfolding_all rfl)
set_option maxRecDepth 20000 in
theorem b_236_93 {d nS : Nat} {x1 x2 x3 x4 x5 : Int32} {M : am_M} {Q : Option Value → am_H → Prop} (h1 : vp_in x5 1200) : am_Wp d 236 93 [.ref 205, .int x1, .int x2, .int x3, .int x4, .int x5] [] (hp nS M) Q = if ¬ (M 219 x5.toNatClampNeg) = 9 then am_Wp d 236 128 [.ref 205, .int x1, .int x2, .int x3, .int x4, .int x5] [] (hp nS M) Q else am_Wp d 236 105 [.ref 205, .int x1, .int x2, .int x3, .int x4, .int x5] [] (hp nS M) Q := by
  refine (eq_run 3 (q := (99, [.ref 205, .int x1, .int x2, .int x3, .int x4, .int x5], [.int x5, .ref 219], hp nS M)) (by with_unfolding_all rfl)).trans ?_
  refine (eq_ald (e := (.iaload, 1, 0, 0, 0)) (by with_unfolding_all rfl) rfl (n := 1200) (by with_unfolding_all rfl) h1).trans ?_
  refine (eq_run 1 (q := (102, [.ref 205, .int x1, .int x2, .int x3, .int x4, .int x5], [.int 9, .int (M 219 x5.toNatClampNeg)], hp nS M)) (by with_unfolding_all rfl)).trans ?_
  exact eq_cmp_ne (by with_unfolding_all rfl)
set_option maxRecDepth 20000 in
theorem b_236_105 {d nS : Nat} {x1 x2 x3 x4 x5 : Int32} {M : am_M} {Q : Option Value → am_H → Prop} (h1 : vp_in (x4 - 1) 420) (h2 : vp_in (x4 - 1) 420) : am_Wp d 236 105 [.ref 205, .int x1, .int x2, .int x3, .int x4, .int x5] [] (hp nS M) Q = am_Wp d 236 170 [.ref 205, .int x1, .int x2, .int x3, .int x4, .int x5] [] (hp nS (am_up M 226 (x4 - 1).toNatClampNeg (1 - (M 226 (x4 - 1).toNatClampNeg)))) Q := by
  refine (eq_run 11 (q := (122, [.ref 205, .int x1, .int x2, .int x3, .int x4, .int x5], [.int (x4 - 1), .ref 226, .int 1, .int (x4 - 1), .ref 226], hp nS M)) (by with_unfolding_all rfl)).trans ?_
  refine (eq_ald (e := (.iaload, 1, 0, 0, 0)) (by with_unfolding_all rfl) rfl (n := 420) (by with_unfolding_all rfl) h1).trans ?_
  refine (eq_run 1 (q := (124, [.ref 205, .int x1, .int x2, .int x3, .int x4, .int x5], [.int (1 - (M 226 (x4 - 1).toNatClampNeg)), .int (x4 - 1), .ref 226], hp nS M)) (by with_unfolding_all rfl)).trans ?_
  refine (eq_ast (e := (.iastore, 1, 0, 0, 0)) (by with_unfolding_all rfl) rfl (n := 420) (by with_unfolding_all rfl) (by decide) h2).trans ?_
  exact eq_run 1 (q := (170, [.ref 205, .int x1, .int x2, .int x3, .int x4, .int x5], [], hp nS (am_up M 226 (x4 - 1).toNatClampNeg (1 - (M 226 (x4 - 1).toNatClampNeg))))) (by with_unfolding_all rfl)
set_option maxRecDepth 20000 in
theorem b_236_128 {d nS : Nat} {x1 x2 x3 x4 x5 : Int32} {M : am_M} {Q : Option Value → am_H → Prop} (h1 : vp_in x5 1200) (h2 : vp_in ((x4 - 1) - 1) 420) (h3 : vp_in (x4 - 1) 420) : am_Wp (d + 1) 236 128 [.ref 205, .int x1, .int x2, .int x3, .int x4, .int x5] [] (hp nS M) Q = am_Wp d 237 0 [.ref 205, .int (M 219 x5.toNatClampNeg), .int (M 226 ((x4 - 1) - 1).toNatClampNeg), .int (M 226 (x4 - 1).toNatClampNeg)] [] (hp nS M) (fun v h1 => am_Wp (d + 1) 236 169 [.ref 205, .int x1, .int x2, .int x3, .int (x4 - 1), .int x5] (am_ans v [.int ((x4 - 1) - 1), .ref 226]) h1 Q) := by
  refine (eq_run 13 (q := (149, [.ref 205, .int x1, .int x2, .int x3, .int (x4 - 1), .int x5], [.int x5, .ref 219, .ref 205, .int ((x4 - 1) - 1), .ref 226], hp nS M)) (by with_unfolding_all rfl)).trans ?_
  refine (eq_ald (e := (.iaload, 1, 0, 0, 0)) (by with_unfolding_all rfl) rfl (n := 1200) (by with_unfolding_all rfl) h1).trans ?_
  refine (eq_run 5 (q := (158, [.ref 205, .int x1, .int x2, .int x3, .int (x4 - 1), .int x5], [.int ((x4 - 1) - 1), .ref 226, .int (M 219 x5.toNatClampNeg), .ref 205, .int ((x4 - 1) - 1), .ref 226], hp nS M)) (by with_unfolding_all rfl)).trans ?_
  refine (eq_ald (e := (.iaload, 1, 0, 0, 0)) (by with_unfolding_all rfl) rfl (n := 420) (by with_unfolding_all rfl) h2).trans ?_
  refine (eq_run 3 (q := (165, [.ref 205, .int x1, .int x2, .int x3, .int (x4 - 1), .int x5], [.int (x4 - 1), .ref 226, .int (M 226 ((x4 - 1) - 1).toNatClampNeg), .int (M 219 x5.toNatClampNeg), .ref 205, .int ((x4 - 1) - 1), .ref 226], hp nS M)) (by with_unfolding_all rfl)).trans ?_
  refine (eq_ald (e := (.iaload, 1, 0, 0, 0)) (by with_unfolding_all rfl) rfl (n := 420) (by with_unfolding_all rfl) h3).trans ?_
  exact eq_call2 (e := (.invokevirtual 317, 3, 0, 237, 315)) (as := [.ref 205, .int (M 219 x5.toNatClampNeg), .int (M 226 ((x4 - 1) - 1).toNatClampNeg), .int (M 226 (x4 - 1).toNatClampNeg)]) (r := [.int ((x4 - 1) - 1), .ref 226]) (n := 4) (m := 4) (by with_unfolding_all rfl) rfl (by decide) (by with_unfolding_all rfl) (by decide) (by with_unfolding_all rfl) ⟨fun _ => am_rec_ok (c := 14) (by with_unfolding_all rfl) (by decide +kernel), fun z => by simp at z⟩
set_option maxRecDepth 20000 in
theorem b_236_169 {d nS : Nat} {x1 x2 x3 x4 x5 s1 s2 : Int32} {M : am_M} {Q : Option Value → am_H → Prop} (h1 : vp_in s1 420) : am_Wp d 236 169 [.ref 205, .int x1, .int x2, .int x3, .int x4, .int x5] [.int s2, .int s1, .ref 226] (hp nS M) Q = am_Wp d 236 170 [.ref 205, .int x1, .int x2, .int x3, .int x4, .int x5] [] (hp nS (am_up M 226 s1.toNatClampNeg s2)) Q := by
  exact eq_ast (e := (.iastore, 1, 0, 0, 0)) (by with_unfolding_all rfl) rfl (n := 420) (by with_unfolding_all rfl) (by decide) h1
set_option maxRecDepth 20000 in
theorem b_236_170 {d nS : Nat} {x1 x2 x3 x4 x5 : Int32} {M : am_M} {Q : Option Value → am_H → Prop} : am_Wp d 236 170 [.ref 205, .int x1, .int x2, .int x3, .int x4, .int x5] [] (hp nS M) Q = am_Wp d 236 12 [.ref 205, .int x1, .int x2, .int x3, .int x4, .int (x5 + 1)] [] (hp nS M) Q := by
  exact eq_run 2 (q := (12, [.ref 205, .int x1, .int x2, .int x3, .int x4, .int (x5 + 1)], [], hp nS M)) (by with_unfolding_all rfl)
set_option maxRecDepth 20000 in
theorem b_236_176 {d nS : Nat} {x1 x2 x3 x4 x5 : Int32} {M : am_M} {Q : Option Value → am_H → Prop} : am_Wp d 236 176 [.ref 205, .int x1, .int x2, .int x3, .int x4, .int x5] [] (hp nS M) Q = Q (some (.int (M 226 0))) (hp nS M) := by
  refine (eq_run 4 (q := (182, [.ref 205, .int x1, .int x2, .int x3, .int x4, .int x5], [.int (M 226 0)], hp nS M)) (by with_unfolding_all rfl)).trans ?_
  exact eq_retI2 (e := (.ireturn, 1, 0, 0, 0)) (t := .int) (by with_unfolding_all rfl) rfl (by with_unfolding_all rfl) rfl
-- twoOf(III)I
set_option maxRecDepth 20000 in
theorem b_237_0 {d nS : Nat} {x1 x2 x3 : Int32} {M : am_M} {Q : Option Value → am_H → Prop} : am_Wp d 237 0 [.ref 205, .int x1, .int x2, .int x3] [] (hp nS M) Q = if ¬ x1 = 2 then am_Wp d 237 9 [.ref 205, .int x1, .int x2, .int x3] [] (hp nS M) Q else am_Wp d 237 5 [.ref 205, .int x1, .int x2, .int x3] [] (hp nS M) Q := by
  refine (eq_run 2 (q := (2, [.ref 205, .int x1, .int x2, .int x3], [.int 2, .int x1], hp nS M)) (by with_unfolding_all rfl)).trans ?_
  exact eq_cmp_ne (by with_unfolding_all rfl)
set_option maxRecDepth 20000 in
theorem b_237_5 {d nS : Nat} {x1 x2 x3 : Int32} {M : am_M} {Q : Option Value → am_H → Prop} : am_Wp d 237 5 [.ref 205, .int x1, .int x2, .int x3] [] (hp nS M) Q = Q (some (.int (x2 + x3))) (hp nS M) := by
  refine (eq_run 3 (q := (8, [.ref 205, .int x1, .int x2, .int x3], [.int (x2 + x3)], hp nS M)) (by with_unfolding_all rfl)).trans ?_
  exact eq_retI2 (e := (.ireturn, 1, 0, 0, 0)) (t := .int) (by with_unfolding_all rfl) rfl (by with_unfolding_all rfl) rfl
set_option maxRecDepth 20000 in
theorem b_237_9 {d nS : Nat} {x1 x2 x3 : Int32} {M : am_M} {Q : Option Value → am_H → Prop} : am_Wp d 237 9 [.ref 205, .int x1, .int x2, .int x3] [] (hp nS M) Q = if ¬ x1 = 3 then am_Wp d 237 18 [.ref 205, .int x1, .int x2, .int x3] [] (hp nS M) Q else am_Wp d 237 14 [.ref 205, .int x1, .int x2, .int x3] [] (hp nS M) Q := by
  refine (eq_run 2 (q := (11, [.ref 205, .int x1, .int x2, .int x3], [.int 3, .int x1], hp nS M)) (by with_unfolding_all rfl)).trans ?_
  exact eq_cmp_ne (by with_unfolding_all rfl)
set_option maxRecDepth 20000 in
theorem b_237_14 {d nS : Nat} {x1 x2 x3 : Int32} {M : am_M} {Q : Option Value → am_H → Prop} : am_Wp d 237 14 [.ref 205, .int x1, .int x2, .int x3] [] (hp nS M) Q = Q (some (.int (x2 - x3))) (hp nS M) := by
  refine (eq_run 3 (q := (17, [.ref 205, .int x1, .int x2, .int x3], [.int (x2 - x3)], hp nS M)) (by with_unfolding_all rfl)).trans ?_
  exact eq_retI2 (e := (.ireturn, 1, 0, 0, 0)) (t := .int) (by with_unfolding_all rfl) rfl (by with_unfolding_all rfl) rfl
set_option maxRecDepth 20000 in
theorem b_237_18 {d nS : Nat} {x1 x2 x3 : Int32} {M : am_M} {Q : Option Value → am_H → Prop} : am_Wp d 237 18 [.ref 205, .int x1, .int x2, .int x3] [] (hp nS M) Q = if ¬ x1 = 4 then am_Wp d 237 27 [.ref 205, .int x1, .int x2, .int x3] [] (hp nS M) Q else am_Wp d 237 23 [.ref 205, .int x1, .int x2, .int x3] [] (hp nS M) Q := by
  refine (eq_run 2 (q := (20, [.ref 205, .int x1, .int x2, .int x3], [.int 4, .int x1], hp nS M)) (by with_unfolding_all rfl)).trans ?_
  exact eq_cmp_ne (by with_unfolding_all rfl)
set_option maxRecDepth 20000 in
theorem b_237_23 {d nS : Nat} {x1 x2 x3 : Int32} {M : am_M} {Q : Option Value → am_H → Prop} : am_Wp d 237 23 [.ref 205, .int x1, .int x2, .int x3] [] (hp nS M) Q = Q (some (.int (x2 * x3))) (hp nS M) := by
  refine (eq_run 3 (q := (26, [.ref 205, .int x1, .int x2, .int x3], [.int (x2 * x3)], hp nS M)) (by with_unfolding_all rfl)).trans ?_
  exact eq_retI2 (e := (.ireturn, 1, 0, 0, 0)) (t := .int) (by with_unfolding_all rfl) rfl (by with_unfolding_all rfl) rfl
set_option maxRecDepth 20000 in
theorem b_237_27 {d nS : Nat} {x1 x2 x3 : Int32} {M : am_M} {Q : Option Value → am_H → Prop} : am_Wp d 237 27 [.ref 205, .int x1, .int x2, .int x3] [] (hp nS M) Q = if ¬ x1 = 5 then am_Wp d 237 36 [.ref 205, .int x1, .int x2, .int x3] [] (hp nS M) Q else am_Wp d 237 32 [.ref 205, .int x1, .int x2, .int x3] [] (hp nS M) Q := by
  refine (eq_run 2 (q := (29, [.ref 205, .int x1, .int x2, .int x3], [.int 5, .int x1], hp nS M)) (by with_unfolding_all rfl)).trans ?_
  exact eq_cmp_ne (by with_unfolding_all rfl)
set_option maxRecDepth 20000 in
theorem b_237_32 {d nS : Nat} {x1 x2 x3 : Int32} {M : am_M} {Q : Option Value → am_H → Prop} (h1 : ¬ x3 = 0) : am_Wp d 237 32 [.ref 205, .int x1, .int x2, .int x3] [] (hp nS M) Q = Q (some (.int (x2 / x3))) (hp nS M) := by
  refine (eq_run 2 (q := (34, [.ref 205, .int x1, .int x2, .int x3], [.int x3, .int x2], hp nS M)) (by with_unfolding_all rfl)).trans ?_
  refine (eq_div (e := (.idiv, 1, 0, 0, 0)) (by with_unfolding_all rfl) rfl h1).trans ?_
  exact eq_retI2 (e := (.ireturn, 1, 0, 0, 0)) (t := .int) (by with_unfolding_all rfl) rfl (by with_unfolding_all rfl) rfl
set_option maxRecDepth 20000 in
theorem b_237_36 {d nS : Nat} {x1 x2 x3 : Int32} {M : am_M} {Q : Option Value → am_H → Prop} : am_Wp d 237 36 [.ref 205, .int x1, .int x2, .int x3] [] (hp nS M) Q = if ¬ x1 = 6 then am_Wp d 237 53 [.ref 205, .int x1, .int x2, .int x3] [] (hp nS M) Q else am_Wp d 237 42 [.ref 205, .int x1, .int x2, .int x3] [] (hp nS M) Q := by
  refine (eq_run 2 (q := (39, [.ref 205, .int x1, .int x2, .int x3], [.int 6, .int x1], hp nS M)) (by with_unfolding_all rfl)).trans ?_
  exact eq_cmp_ne (by with_unfolding_all rfl)
set_option maxRecDepth 20000 in
theorem b_237_42 {d nS : Nat} {x1 x2 x3 : Int32} {M : am_M} {Q : Option Value → am_H → Prop} : am_Wp d 237 42 [.ref 205, .int x1, .int x2, .int x3] [] (hp nS M) Q = if x3 ≤ x2 then am_Wp d 237 51 [.ref 205, .int x1, .int x2, .int x3] [] (hp nS M) Q else am_Wp d 237 47 [.ref 205, .int x1, .int x2, .int x3] [] (hp nS M) Q := by
  refine (eq_run 2 (q := (44, [.ref 205, .int x1, .int x2, .int x3], [.int x3, .int x2], hp nS M)) (by with_unfolding_all rfl)).trans ?_
  exact eq_cmp_ge (by with_unfolding_all rfl)
set_option maxRecDepth 20000 in
theorem b_237_47 {d nS : Nat} {x1 x2 x3 : Int32} {M : am_M} {Q : Option Value → am_H → Prop} : am_Wp d 237 47 [.ref 205, .int x1, .int x2, .int x3] [] (hp nS M) Q = am_Wp d 237 52 [.ref 205, .int x1, .int x2, .int x3] [.int 1] (hp nS M) Q := by
  exact eq_run 2 (q := (52, [.ref 205, .int x1, .int x2, .int x3], [.int 1], hp nS M)) (by with_unfolding_all rfl)
set_option maxRecDepth 20000 in
theorem b_237_51 {d nS : Nat} {x1 x2 x3 : Int32} {M : am_M} {Q : Option Value → am_H → Prop} : am_Wp d 237 51 [.ref 205, .int x1, .int x2, .int x3] [] (hp nS M) Q = am_Wp d 237 52 [.ref 205, .int x1, .int x2, .int x3] [.int 0] (hp nS M) Q := by
  exact eq_run 1 (q := (52, [.ref 205, .int x1, .int x2, .int x3], [.int 0], hp nS M)) (by with_unfolding_all rfl)
set_option maxRecDepth 20000 in
theorem b_237_52 {d nS : Nat} {x1 x2 x3 s0 : Int32} {M : am_M} {Q : Option Value → am_H → Prop} : am_Wp d 237 52 [.ref 205, .int x1, .int x2, .int x3] [.int s0] (hp nS M) Q = Q (some (.int s0)) (hp nS M) := by
  exact eq_retI2 (e := (.ireturn, 1, 0, 0, 0)) (t := .int) (by with_unfolding_all rfl) rfl (by with_unfolding_all rfl) rfl
set_option maxRecDepth 20000 in
theorem b_237_53 {d nS : Nat} {x1 x2 x3 : Int32} {M : am_M} {Q : Option Value → am_H → Prop} : am_Wp d 237 53 [.ref 205, .int x1, .int x2, .int x3] [] (hp nS M) Q = if ¬ x1 = 7 then am_Wp d 237 70 [.ref 205, .int x1, .int x2, .int x3] [] (hp nS M) Q else am_Wp d 237 59 [.ref 205, .int x1, .int x2, .int x3] [] (hp nS M) Q := by
  refine (eq_run 2 (q := (56, [.ref 205, .int x1, .int x2, .int x3], [.int 7, .int x1], hp nS M)) (by with_unfolding_all rfl)).trans ?_
  exact eq_cmp_ne (by with_unfolding_all rfl)
set_option maxRecDepth 20000 in
theorem b_237_59 {d nS : Nat} {x1 x2 x3 : Int32} {M : am_M} {Q : Option Value → am_H → Prop} : am_Wp d 237 59 [.ref 205, .int x1, .int x2, .int x3] [] (hp nS M) Q = if ¬ x2 = x3 then am_Wp d 237 68 [.ref 205, .int x1, .int x2, .int x3] [] (hp nS M) Q else am_Wp d 237 64 [.ref 205, .int x1, .int x2, .int x3] [] (hp nS M) Q := by
  refine (eq_run 2 (q := (61, [.ref 205, .int x1, .int x2, .int x3], [.int x3, .int x2], hp nS M)) (by with_unfolding_all rfl)).trans ?_
  exact eq_cmp_ne (by with_unfolding_all rfl)
set_option maxRecDepth 20000 in
theorem b_237_64 {d nS : Nat} {x1 x2 x3 : Int32} {M : am_M} {Q : Option Value → am_H → Prop} : am_Wp d 237 64 [.ref 205, .int x1, .int x2, .int x3] [] (hp nS M) Q = am_Wp d 237 69 [.ref 205, .int x1, .int x2, .int x3] [.int 1] (hp nS M) Q := by
  exact eq_run 2 (q := (69, [.ref 205, .int x1, .int x2, .int x3], [.int 1], hp nS M)) (by with_unfolding_all rfl)
set_option maxRecDepth 20000 in
theorem b_237_68 {d nS : Nat} {x1 x2 x3 : Int32} {M : am_M} {Q : Option Value → am_H → Prop} : am_Wp d 237 68 [.ref 205, .int x1, .int x2, .int x3] [] (hp nS M) Q = am_Wp d 237 69 [.ref 205, .int x1, .int x2, .int x3] [.int 0] (hp nS M) Q := by
  exact eq_run 1 (q := (69, [.ref 205, .int x1, .int x2, .int x3], [.int 0], hp nS M)) (by with_unfolding_all rfl)
set_option maxRecDepth 20000 in
theorem b_237_69 {d nS : Nat} {x1 x2 x3 s0 : Int32} {M : am_M} {Q : Option Value → am_H → Prop} : am_Wp d 237 69 [.ref 205, .int x1, .int x2, .int x3] [.int s0] (hp nS M) Q = Q (some (.int s0)) (hp nS M) := by
  exact eq_retI2 (e := (.ireturn, 1, 0, 0, 0)) (t := .int) (by with_unfolding_all rfl) rfl (by with_unfolding_all rfl) rfl
set_option maxRecDepth 20000 in
theorem b_237_70 {d nS : Nat} {x1 x2 x3 : Int32} {M : am_M} {Q : Option Value → am_H → Prop} : am_Wp d 237 70 [.ref 205, .int x1, .int x2, .int x3] [] (hp nS M) Q = if ¬ x1 = 8 then am_Wp d 237 87 [.ref 205, .int x1, .int x2, .int x3] [] (hp nS M) Q else am_Wp d 237 76 [.ref 205, .int x1, .int x2, .int x3] [] (hp nS M) Q := by
  refine (eq_run 2 (q := (73, [.ref 205, .int x1, .int x2, .int x3], [.int 8, .int x1], hp nS M)) (by with_unfolding_all rfl)).trans ?_
  exact eq_cmp_ne (by with_unfolding_all rfl)
set_option maxRecDepth 20000 in
theorem b_237_76 {d nS : Nat} {x1 x2 x3 : Int32} {M : am_M} {Q : Option Value → am_H → Prop} : am_Wp d 237 76 [.ref 205, .int x1, .int x2, .int x3] [] (hp nS M) Q = if x2 ≤ x3 then am_Wp d 237 85 [.ref 205, .int x1, .int x2, .int x3] [] (hp nS M) Q else am_Wp d 237 81 [.ref 205, .int x1, .int x2, .int x3] [] (hp nS M) Q := by
  refine (eq_run 2 (q := (78, [.ref 205, .int x1, .int x2, .int x3], [.int x3, .int x2], hp nS M)) (by with_unfolding_all rfl)).trans ?_
  exact eq_cmp_le (by with_unfolding_all rfl)
set_option maxRecDepth 20000 in
theorem b_237_81 {d nS : Nat} {x1 x2 x3 : Int32} {M : am_M} {Q : Option Value → am_H → Prop} : am_Wp d 237 81 [.ref 205, .int x1, .int x2, .int x3] [] (hp nS M) Q = am_Wp d 237 86 [.ref 205, .int x1, .int x2, .int x3] [.int 1] (hp nS M) Q := by
  exact eq_run 2 (q := (86, [.ref 205, .int x1, .int x2, .int x3], [.int 1], hp nS M)) (by with_unfolding_all rfl)
set_option maxRecDepth 20000 in
theorem b_237_85 {d nS : Nat} {x1 x2 x3 : Int32} {M : am_M} {Q : Option Value → am_H → Prop} : am_Wp d 237 85 [.ref 205, .int x1, .int x2, .int x3] [] (hp nS M) Q = am_Wp d 237 86 [.ref 205, .int x1, .int x2, .int x3] [.int 0] (hp nS M) Q := by
  exact eq_run 1 (q := (86, [.ref 205, .int x1, .int x2, .int x3], [.int 0], hp nS M)) (by with_unfolding_all rfl)
set_option maxRecDepth 20000 in
theorem b_237_86 {d nS : Nat} {x1 x2 x3 s0 : Int32} {M : am_M} {Q : Option Value → am_H → Prop} : am_Wp d 237 86 [.ref 205, .int x1, .int x2, .int x3] [.int s0] (hp nS M) Q = Q (some (.int s0)) (hp nS M) := by
  exact eq_retI2 (e := (.ireturn, 1, 0, 0, 0)) (t := .int) (by with_unfolding_all rfl) rfl (by with_unfolding_all rfl) rfl
set_option maxRecDepth 20000 in
theorem b_237_87 {d nS : Nat} {x1 x2 x3 : Int32} {M : am_M} {Q : Option Value → am_H → Prop} : am_Wp d 237 87 [.ref 205, .int x1, .int x2, .int x3] [] (hp nS M) Q = if ¬ x1 = 10 then am_Wp d 237 99 [.ref 205, .int x1, .int x2, .int x3] [] (hp nS M) Q else am_Wp d 237 93 [.ref 205, .int x1, .int x2, .int x3] [] (hp nS M) Q := by
  refine (eq_run 2 (q := (90, [.ref 205, .int x1, .int x2, .int x3], [.int 10, .int x1], hp nS M)) (by with_unfolding_all rfl)).trans ?_
  exact eq_cmp_ne (by with_unfolding_all rfl)
set_option maxRecDepth 20000 in
theorem b_237_93 {d nS : Nat} {x1 x2 x3 : Int32} {M : am_M} {Q : Option Value → am_H → Prop} : am_Wp d 237 93 [.ref 205, .int x1, .int x2, .int x3] [] (hp nS M) Q = am_Wp d 237 110 [.ref 205, .int x1, .int x2, .int x3] [.int (x2 * x3)] (hp nS M) Q := by
  exact eq_run 4 (q := (110, [.ref 205, .int x1, .int x2, .int x3], [.int (x2 * x3)], hp nS M)) (by with_unfolding_all rfl)
set_option maxRecDepth 20000 in
theorem b_237_99 {d nS : Nat} {x1 x2 x3 : Int32} {M : am_M} {Q : Option Value → am_H → Prop} : am_Wp d 237 99 [.ref 205, .int x1, .int x2, .int x3] [] (hp nS M) Q = if (x2 + x3) ≤ 0 then am_Wp d 237 109 [.ref 205, .int x1, .int x2, .int x3] [] (hp nS M) Q else am_Wp d 237 105 [.ref 205, .int x1, .int x2, .int x3] [] (hp nS M) Q := by
  refine (eq_run 3 (q := (102, [.ref 205, .int x1, .int x2, .int x3], [.int (x2 + x3)], hp nS M)) (by with_unfolding_all rfl)).trans ?_
  exact eq_if_le (by with_unfolding_all rfl)
set_option maxRecDepth 20000 in
theorem b_237_105 {d nS : Nat} {x1 x2 x3 : Int32} {M : am_M} {Q : Option Value → am_H → Prop} : am_Wp d 237 105 [.ref 205, .int x1, .int x2, .int x3] [] (hp nS M) Q = am_Wp d 237 110 [.ref 205, .int x1, .int x2, .int x3] [.int 1] (hp nS M) Q := by
  exact eq_run 2 (q := (110, [.ref 205, .int x1, .int x2, .int x3], [.int 1], hp nS M)) (by with_unfolding_all rfl)
set_option maxRecDepth 20000 in
theorem b_237_109 {d nS : Nat} {x1 x2 x3 : Int32} {M : am_M} {Q : Option Value → am_H → Prop} : am_Wp d 237 109 [.ref 205, .int x1, .int x2, .int x3] [] (hp nS M) Q = am_Wp d 237 110 [.ref 205, .int x1, .int x2, .int x3] [.int 0] (hp nS M) Q := by
  exact eq_run 1 (q := (110, [.ref 205, .int x1, .int x2, .int x3], [.int 0], hp nS M)) (by with_unfolding_all rfl)
set_option maxRecDepth 20000 in
theorem b_237_110 {d nS : Nat} {x1 x2 x3 s0 : Int32} {M : am_M} {Q : Option Value → am_H → Prop} : am_Wp d 237 110 [.ref 205, .int x1, .int x2, .int x3] [.int s0] (hp nS M) Q = Q (some (.int s0)) (hp nS M) := by
  exact eq_retI2 (e := (.ireturn, 1, 0, 0, 0)) (t := .int) (by with_unfolding_all rfl) rfl (by with_unfolding_all rfl) rfl
-- held(III)I
set_option maxRecDepth 20000 in
theorem b_238_0 {d nS : Nat} {x1 x2 x3 : Int32} {M : am_M} {Q : Option Value → am_H → Prop} : am_Wp d 238 0 [.ref 205, .int x1, .int x2, .int x3] [] (hp nS M) Q = if x2 ≤ x1 then am_Wp d 238 9 [.ref 205, .int x1, .int x2, .int x3] [] (hp nS M) Q else am_Wp d 238 5 [.ref 205, .int x1, .int x2, .int x3] [] (hp nS M) Q := by
  refine (eq_run 2 (q := (2, [.ref 205, .int x1, .int x2, .int x3], [.int x2, .int x1], hp nS M)) (by with_unfolding_all rfl)).trans ?_
  exact eq_cmp_ge (by with_unfolding_all rfl)
set_option maxRecDepth 20000 in
theorem b_238_5 {d nS : Nat} {x1 x2 x3 : Int32} {M : am_M} {Q : Option Value → am_H → Prop} : am_Wp d 238 5 [.ref 205, .int x1, .int x2, .int x3] [] (hp nS M) Q = am_Wp d 238 19 [.ref 205, .int x1, .int x2, .int x3] [.int x2] (hp nS M) Q := by
  exact eq_run 2 (q := (19, [.ref 205, .int x1, .int x2, .int x3], [.int x2], hp nS M)) (by with_unfolding_all rfl)
set_option maxRecDepth 20000 in
theorem b_238_9 {d nS : Nat} {x1 x2 x3 : Int32} {M : am_M} {Q : Option Value → am_H → Prop} : am_Wp d 238 9 [.ref 205, .int x1, .int x2, .int x3] [] (hp nS M) Q = if x1 ≤ x3 then am_Wp d 238 18 [.ref 205, .int x1, .int x2, .int x3] [] (hp nS M) Q else am_Wp d 238 14 [.ref 205, .int x1, .int x2, .int x3] [] (hp nS M) Q := by
  refine (eq_run 2 (q := (11, [.ref 205, .int x1, .int x2, .int x3], [.int x3, .int x1], hp nS M)) (by with_unfolding_all rfl)).trans ?_
  exact eq_cmp_le (by with_unfolding_all rfl)
set_option maxRecDepth 20000 in
theorem b_238_14 {d nS : Nat} {x1 x2 x3 : Int32} {M : am_M} {Q : Option Value → am_H → Prop} : am_Wp d 238 14 [.ref 205, .int x1, .int x2, .int x3] [] (hp nS M) Q = am_Wp d 238 19 [.ref 205, .int x1, .int x2, .int x3] [.int x3] (hp nS M) Q := by
  exact eq_run 2 (q := (19, [.ref 205, .int x1, .int x2, .int x3], [.int x3], hp nS M)) (by with_unfolding_all rfl)
set_option maxRecDepth 20000 in
theorem b_238_18 {d nS : Nat} {x1 x2 x3 : Int32} {M : am_M} {Q : Option Value → am_H → Prop} : am_Wp d 238 18 [.ref 205, .int x1, .int x2, .int x3] [] (hp nS M) Q = am_Wp d 238 19 [.ref 205, .int x1, .int x2, .int x3] [.int x1] (hp nS M) Q := by
  exact eq_run 1 (q := (19, [.ref 205, .int x1, .int x2, .int x3], [.int x1], hp nS M)) (by with_unfolding_all rfl)
set_option maxRecDepth 20000 in
theorem b_238_19 {d nS : Nat} {x1 x2 x3 s0 : Int32} {M : am_M} {Q : Option Value → am_H → Prop} : am_Wp d 238 19 [.ref 205, .int x1, .int x2, .int x3] [.int s0] (hp nS M) Q = Q (some (.int s0)) (hp nS M) := by
  exact eq_retI2 (e := (.ireturn, 1, 0, 0, 0)) (t := .int) (by with_unfolding_all rfl) rfl (by with_unfolding_all rfl) rfl
-- greater(II)I
set_option maxRecDepth 20000 in
theorem b_239_0 {d nS : Nat} {x1 x2 : Int32} {M : am_M} {Q : Option Value → am_H → Prop} : am_Wp d 239 0 [.ref 205, .int x1, .int x2] [] (hp nS M) Q = if x1 ≤ x2 then am_Wp d 239 9 [.ref 205, .int x1, .int x2] [] (hp nS M) Q else am_Wp d 239 5 [.ref 205, .int x1, .int x2] [] (hp nS M) Q := by
  refine (eq_run 2 (q := (2, [.ref 205, .int x1, .int x2], [.int x2, .int x1], hp nS M)) (by with_unfolding_all rfl)).trans ?_
  exact eq_cmp_le (by with_unfolding_all rfl)
set_option maxRecDepth 20000 in
theorem b_239_5 {d nS : Nat} {x1 x2 : Int32} {M : am_M} {Q : Option Value → am_H → Prop} : am_Wp d 239 5 [.ref 205, .int x1, .int x2] [] (hp nS M) Q = am_Wp d 239 10 [.ref 205, .int x1, .int x2] [.int x1] (hp nS M) Q := by
  exact eq_run 2 (q := (10, [.ref 205, .int x1, .int x2], [.int x1], hp nS M)) (by with_unfolding_all rfl)
set_option maxRecDepth 20000 in
theorem b_239_9 {d nS : Nat} {x1 x2 : Int32} {M : am_M} {Q : Option Value → am_H → Prop} : am_Wp d 239 9 [.ref 205, .int x1, .int x2] [] (hp nS M) Q = am_Wp d 239 10 [.ref 205, .int x1, .int x2] [.int x2] (hp nS M) Q := by
  exact eq_run 1 (q := (10, [.ref 205, .int x1, .int x2], [.int x2], hp nS M)) (by with_unfolding_all rfl)
set_option maxRecDepth 20000 in
theorem b_239_10 {d nS : Nat} {x1 x2 s0 : Int32} {M : am_M} {Q : Option Value → am_H → Prop} : am_Wp d 239 10 [.ref 205, .int x1, .int x2] [.int s0] (hp nS M) Q = Q (some (.int s0)) (hp nS M) := by
  exact eq_retI2 (e := (.ireturn, 1, 0, 0, 0)) (t := .int) (by with_unfolding_all rfl) rfl (by with_unfolding_all rfl) rfl
-- fallsOf(II)I
set_option maxRecDepth 20000 in
theorem b_240_0 {d nS : Nat} {x1 x2 : Int32} {M : am_M} {Q : Option Value → am_H → Prop} : am_Wp (d + 1) 240 0 [.ref 205, .int x1, .int x2] [] (hp nS M) Q = am_Wp d 233 0 [.ref 205, .int x1, .int x2] [] (hp nS M) (fun v h1 => am_Wp (d + 1) 240 6 [.ref 205, .int x1, .int x2] (am_ans v []) h1 Q) := by
  refine (eq_run 3 (q := (3, [.ref 205, .int x1, .int x2], [.int x2, .int x1, .ref 205], hp nS M)) (by with_unfolding_all rfl)).trans ?_
  exact eq_call2 (e := (.invokevirtual 329, 3, 0, 233, 319)) (as := [.ref 205, .int x1, .int x2]) (r := []) (n := 3) (m := 3) (by with_unfolding_all rfl) rfl (by decide) (by with_unfolding_all rfl) (by decide) (by with_unfolding_all rfl) ⟨fun _ => am_rec_ok (c := 14) (by with_unfolding_all rfl) (by decide +kernel), fun z => by simp at z⟩
set_option maxRecDepth 20000 in
theorem b_240_6 {d nS : Nat} {x1 x2 : Int32} {M : am_M} {Q : Option Value → am_H → Prop} : am_Wp (d + 1) 240 6 [.ref 205, .int x1, .int x2] [] (hp nS M) Q = am_Wp d 234 0 [.ref 205, .int 1, .int ((100 + (100 * (M 225 3))) - (10 * (M 225 0))), .int 0, .int 1000, .retAddr 0] [] (hp nS M) (fun v h1 => am_Wp (d + 1) 240 37 [.ref 205, .int x1, .int x2] (am_ans v []) h1 Q) := by
  refine (eq_run 19 (q := (34, [.ref 205, .int x1, .int x2], [.int 1000, .int 0, .int ((100 + (100 * (M 225 3))) - (10 * (M 225 0))), .int 1, .ref 205], hp nS M)) (by with_unfolding_all rfl)).trans ?_
  exact eq_call2 (e := (.invokevirtual 332, 3, 0, 234, 320)) (as := [.ref 205, .int 1, .int ((100 + (100 * (M 225 3))) - (10 * (M 225 0))), .int 0, .int 1000]) (r := []) (n := 5) (m := 6) (by with_unfolding_all rfl) rfl (by decide) (by with_unfolding_all rfl) (by decide) (by with_unfolding_all rfl) ⟨fun _ => am_rec_ok (c := 14) (by with_unfolding_all rfl) (by decide +kernel), fun z => by simp at z⟩
set_option maxRecDepth 20000 in
theorem b_240_37 {d nS : Nat} {x1 x2 s0 : Int32} {M : am_M} {Q : Option Value → am_H → Prop} : am_Wp d 240 37 [.ref 205, .int x1, .int x2] [.int s0] (hp nS M) Q = Q (some (.int s0)) (hp nS M) := by
  exact eq_retI2 (e := (.ireturn, 1, 0, 0, 0)) (t := .int) (by with_unfolding_all rfl) rfl (by with_unfolding_all rfl) rfl
-- happens(I)Z
set_option maxRecDepth 20000 in
theorem b_241_0 {d nS : Nat} {x1 : Int32} {M : am_M} {Q : Option Value → am_H → Prop} : am_Wp d 241 0 [.ref 205, .int x1] [] (hp nS M) Q = if (M 205 7) = 0 then am_Wp d 241 24 [.ref 205, .int x1] [] (hp nS M) Q else am_Wp d 241 7 [.ref 205, .int x1] [] (hp nS M) Q := by
  refine (eq_run 2 (q := (4, [.ref 205, .int x1], [.int (M 205 7)], hp nS M)) (by with_unfolding_all rfl)).trans ?_
  exact eq_if_eq (by with_unfolding_all rfl)
set_option maxRecDepth 20000 in
theorem b_241_7 {d nS : Nat} {x1 : Int32} {M : am_M} {Q : Option Value → am_H → Prop} : am_Wp d 241 7 [.ref 205, .int x1] [] (hp nS M) Q = if (2 * x1) < 1000 then am_Wp d 241 20 [.ref 205, .int x1] [] (hp nS M) Q else am_Wp d 241 16 [.ref 205, .int x1] [] (hp nS M) Q := by
  refine (eq_run 4 (q := (13, [.ref 205, .int x1], [.int 1000, .int (2 * x1)], hp nS M)) (by with_unfolding_all rfl)).trans ?_
  exact eq_cmp_lt (by with_unfolding_all rfl)
set_option maxRecDepth 20000 in
theorem b_241_16 {d nS : Nat} {x1 : Int32} {M : am_M} {Q : Option Value → am_H → Prop} : am_Wp d 241 16 [.ref 205, .int x1] [] (hp nS M) Q = am_Wp d 241 44 [.ref 205, .int x1] [.int 1] (hp nS M) Q := by
  exact eq_run 2 (q := (44, [.ref 205, .int x1], [.int 1], hp nS M)) (by with_unfolding_all rfl)
set_option maxRecDepth 20000 in
theorem b_241_20 {d nS : Nat} {x1 : Int32} {M : am_M} {Q : Option Value → am_H → Prop} : am_Wp d 241 20 [.ref 205, .int x1] [] (hp nS M) Q = am_Wp d 241 44 [.ref 205, .int x1] [.int 0] (hp nS M) Q := by
  exact eq_run 2 (q := (44, [.ref 205, .int x1], [.int 0], hp nS M)) (by with_unfolding_all rfl)
set_option maxRecDepth 20000 in
theorem b_241_24 {d nS : Nat} {x1 : Int32} {M : am_M} {Q : Option Value → am_H → Prop} : am_Wp d 241 24 [.ref 205, .int x1] [] (hp nS M) Q = if x1 ≤ 0 then am_Wp d 241 43 [.ref 205, .int x1] [] (hp nS M) Q else am_Wp d 241 28 [.ref 205, .int x1] [] (hp nS M) Q := by
  refine (eq_run 1 (q := (25, [.ref 205, .int x1], [.int x1], hp nS M)) (by with_unfolding_all rfl)).trans ?_
  exact eq_if_le (by with_unfolding_all rfl)
set_option maxRecDepth 20000 in
theorem b_241_28 {d nS : Nat} {x1 : Int32} {M : am_M} {Q : Option Value → am_H → Prop} : am_Wp (d + 1) 241 28 [.ref 205, .int x1] [] (hp nS M) Q = am_Wp d 242 0 [.ref 205, .int 1000] [] (hp nS M) (fun v h1 => am_Wp (d + 1) 241 35 [.ref 205, .int x1] (am_ans v []) h1 Q) := by
  refine (eq_run 2 (q := (32, [.ref 205, .int x1], [.int 1000, .ref 205], hp nS M)) (by with_unfolding_all rfl)).trans ?_
  exact eq_call2 (e := (.invokevirtual 364, 3, 0, 242, 330)) (as := [.ref 205, .int 1000]) (r := []) (n := 2) (m := 2) (by with_unfolding_all rfl) rfl (by decide) (by with_unfolding_all rfl) (by decide) (by with_unfolding_all rfl) ⟨fun _ => am_rec_ok (c := 14) (by with_unfolding_all rfl) (by decide +kernel), fun z => by simp at z⟩
set_option maxRecDepth 20000 in
theorem b_241_35 {d nS : Nat} {x1 s0 : Int32} {M : am_M} {Q : Option Value → am_H → Prop} : am_Wp d 241 35 [.ref 205, .int x1] [.int s0] (hp nS M) Q = if x1 ≤ s0 then am_Wp d 241 43 [.ref 205, .int x1] [] (hp nS M) Q else am_Wp d 241 39 [.ref 205, .int x1] [] (hp nS M) Q := by
  refine (eq_run 1 (q := (36, [.ref 205, .int x1], [.int x1, .int s0], hp nS M)) (by with_unfolding_all rfl)).trans ?_
  exact eq_cmp_ge (by with_unfolding_all rfl)
set_option maxRecDepth 20000 in
theorem b_241_39 {d nS : Nat} {x1 : Int32} {M : am_M} {Q : Option Value → am_H → Prop} : am_Wp d 241 39 [.ref 205, .int x1] [] (hp nS M) Q = am_Wp d 241 44 [.ref 205, .int x1] [.int 1] (hp nS M) Q := by
  exact eq_run 2 (q := (44, [.ref 205, .int x1], [.int 1], hp nS M)) (by with_unfolding_all rfl)
set_option maxRecDepth 20000 in
theorem b_241_43 {d nS : Nat} {x1 : Int32} {M : am_M} {Q : Option Value → am_H → Prop} : am_Wp d 241 43 [.ref 205, .int x1] [] (hp nS M) Q = am_Wp d 241 44 [.ref 205, .int x1] [.int 0] (hp nS M) Q := by
  exact eq_run 1 (q := (44, [.ref 205, .int x1], [.int 0], hp nS M)) (by with_unfolding_all rfl)
set_option maxRecDepth 20000 in
theorem b_241_44 {d nS : Nat} {x1 s0 : Int32} {M : am_M} {Q : Option Value → am_H → Prop} (h1 : am_rok .boolean s0 = true) : am_Wp d 241 44 [.ref 205, .int x1] [.int s0] (hp nS M) Q = Q (some (.int s0)) (hp nS M) := by
  exact eq_retI2 (e := (.ireturn, 1, 0, 0, 0)) (t := .boolean) (by with_unfolding_all rfl) rfl (by with_unfolding_all rfl) h1
-- draw(I)I
set_option maxRecDepth 20000 in
theorem b_242_0 {d nS : Nat} {x1 : Int32} {M : am_M} {Q : Option Value → am_H → Prop} (h1 : ¬ x1 = 0) : am_Wp d 242 0 [.ref 205, .int x1] [] (hp nS M) Q = Q (some (.int (((((am_up M 206 1 ((1664525 * (M 206 1)) + 1013904223)) 206 1).toUInt32 >>> ((8 : Int32).toUInt32 &&& Int32.toUInt32 31)).toInt32) - ((((am_up M 206 1 ((1664525 * (M 206 1)) + 1013904223)) 206 1).toUInt32 >>> ((8 : Int32).toUInt32 &&& Int32.toUInt32 31)).toInt32) / x1 * x1))) (hp nS (am_up M 206 1 ((1664525 * (M 206 1)) + 1013904223))) := by
  refine (eq_run 19 (q := (28, [.ref 205, .int x1], [.int x1, .int ((((am_up M 206 1 ((1664525 * (M 206 1)) + 1013904223)) 206 1).toUInt32 >>> ((8 : Int32).toUInt32 &&& Int32.toUInt32 31)).toInt32)], hp nS (am_up M 206 1 ((1664525 * (M 206 1)) + 1013904223)))) (by with_unfolding_all rfl)).trans ?_
  refine (eq_rem (e := (.irem, 1, 0, 0, 0)) (by with_unfolding_all rfl) rfl h1).trans ?_
  exact eq_retI2 (e := (.ireturn, 1, 0, 0, 0)) (t := .int) (by with_unfolding_all rfl) rfl (by with_unfolding_all rfl) rfl
-- asksFor(I)I
set_option maxRecDepth 20000 in
theorem b_243_0 {d nS : Nat} {x1 : Int32} {M : am_M} {Q : Option Value → am_H → Prop} (h1 : vp_in x1 16) : am_Wp (d + 1) 243 0 [.ref 205, .int x1] [] (hp nS M) Q = am_Wp d 233 0 [.ref 205, .int ((M 224 x1.toNatClampNeg) - 1), .int 0] [] (hp nS M) (fun v h1 => am_Wp (d + 1) 243 13 [.ref 205, .int x1] (am_ans v []) h1 Q) := by
  refine (eq_run 4 (q := (6, [.ref 205, .int x1], [.int x1, .ref 224, .ref 205], hp nS M)) (by with_unfolding_all rfl)).trans ?_
  refine (eq_ald (e := (.iaload, 1, 0, 0, 0)) (by with_unfolding_all rfl) rfl (n := 16) (by with_unfolding_all rfl) h1).trans ?_
  refine (eq_run 3 (q := (10, [.ref 205, .int x1], [.int 0, .int ((M 224 x1.toNatClampNeg) - 1), .ref 205], hp nS M)) (by with_unfolding_all rfl)).trans ?_
  exact eq_call2 (e := (.invokevirtual 329, 3, 0, 233, 319)) (as := [.ref 205, .int ((M 224 x1.toNatClampNeg) - 1), .int 0]) (r := []) (n := 3) (m := 3) (by with_unfolding_all rfl) rfl (by decide) (by with_unfolding_all rfl) (by decide) (by with_unfolding_all rfl) ⟨fun _ => am_rec_ok (c := 14) (by with_unfolding_all rfl) (by decide +kernel), fun z => by simp at z⟩
set_option maxRecDepth 20000 in
theorem b_243_13 {d nS : Nat} {x1 : Int32} {M : am_M} {Q : Option Value → am_H → Prop} (h1 : vp_in x1 8) : am_Wp (d + 1) 243 13 [.ref 205, .int x1] [] (hp nS M) Q = am_Wp d 234 0 [.ref 205, .int 2, .int (((am_up M 225 6 (M 210 x1.toNatClampNeg)) 225 6) + (((am_up M 225 6 (M 210 x1.toNatClampNeg)) 225 1) / 10)), .int 1, .int 999, .retAddr 0] [] (hp nS (am_up M 225 6 (M 210 x1.toNatClampNeg))) (fun v h1 => am_Wp (d + 1) 243 52 [.ref 205, .int x1] (am_ans v []) h1 Q) := by
  refine (eq_run 6 (q := (24, [.ref 205, .int x1], [.int x1, .ref 210, .int 6, .ref 225], hp nS M)) (by with_unfolding_all rfl)).trans ?_
  refine (eq_ald (e := (.iaload, 1, 0, 0, 0)) (by with_unfolding_all rfl) rfl (n := 8) (by with_unfolding_all rfl) h1).trans ?_
  refine (eq_run 16 (q := (49, [.ref 205, .int x1], [.int 999, .int 1, .int (((am_up M 225 6 (M 210 x1.toNatClampNeg)) 225 6) + (((am_up M 225 6 (M 210 x1.toNatClampNeg)) 225 1) / 10)), .int 2, .ref 205], hp nS (am_up M 225 6 (M 210 x1.toNatClampNeg)))) (by with_unfolding_all rfl)).trans ?_
  exact eq_call2 (e := (.invokevirtual 332, 3, 0, 234, 320)) (as := [.ref 205, .int 2, .int (((am_up M 225 6 (M 210 x1.toNatClampNeg)) 225 6) + (((am_up M 225 6 (M 210 x1.toNatClampNeg)) 225 1) / 10)), .int 1, .int 999]) (r := []) (n := 5) (m := 6) (by with_unfolding_all rfl) rfl (by decide) (by with_unfolding_all rfl) (by decide) (by with_unfolding_all rfl) ⟨fun _ => am_rec_ok (c := 14) (by with_unfolding_all rfl) (by decide +kernel), fun z => by simp at z⟩
set_option maxRecDepth 20000 in
theorem b_243_52 {d nS : Nat} {x1 s0 : Int32} {M : am_M} {Q : Option Value → am_H → Prop} : am_Wp d 243 52 [.ref 205, .int x1] [.int s0] (hp nS M) Q = Q (some (.int s0)) (hp nS M) := by
  exact eq_retI2 (e := (.ireturn, 1, 0, 0, 0)) (t := .int) (by with_unfolding_all rfl) rfl (by with_unfolding_all rfl) rfl
-- hasNothing(I)Z
set_option maxRecDepth 20000 in
theorem b_244_0 {d nS : Nat} {x1 : Int32} {M : am_M} {Q : Option Value → am_H → Prop} : am_Wp d 244 0 [.ref 205, .int x1, .retAddr 0, .retAddr 0] [] (hp nS M) Q = am_Wp d 244 6 [.ref 205, .int x1, .int 100000000, .int 0] [] (hp nS M) Q := by
  exact eq_run 4 (q := (6, [.ref 205, .int x1, .int 100000000, .int 0], [], hp nS M)) (by with_unfolding_all rfl)
set_option maxRecDepth 20000 in
theorem b_244_6 {d nS : Nat} {x1 x2 x3 : Int32} {M : am_M} {Q : Option Value → am_H → Prop} : am_Wp d 244 6 [.ref 205, .int x1, .int x2, .int x3] [] (hp nS M) Q = if (M 205 9) ≤ x3 then am_Wp d 244 51 [.ref 205, .int x1, .int x2, .int x3] [] (hp nS M) Q else am_Wp d 244 14 [.ref 205, .int x1, .int x2, .int x3] [] (hp nS M) Q := by
  refine (eq_run 3 (q := (11, [.ref 205, .int x1, .int x2, .int x3], [.int (M 205 9), .int x3], hp nS M)) (by with_unfolding_all rfl)).trans ?_
  exact eq_cmp_ge (by with_unfolding_all rfl)
set_option maxRecDepth 20000 in
theorem b_244_14 {d nS : Nat} {x1 x2 x3 : Int32} {M : am_M} {Q : Option Value → am_H → Prop} : am_Wp (d + 1) 244 14 [.ref 205, .int x1, .int x2, .int x3] [] (hp nS M) Q = am_Wp d 173 0 [.ref 205, .int x1, .int x3] [] (hp nS M) (fun v h1 => am_Wp (d + 1) 244 24 [.ref 205, .int x1, .int x2, .int x3] (am_ans v [.ref 206]) h1 Q) := by
  refine (eq_run 5 (q := (21, [.ref 205, .int x1, .int x2, .int x3], [.int x3, .int x1, .ref 205, .ref 206], hp nS M)) (by with_unfolding_all rfl)).trans ?_
  exact eq_call2 (e := (.invokevirtual 148, 3, 0, 173, 276)) (as := [.ref 205, .int x1, .int x3]) (r := [.ref 206]) (n := 3) (m := 3) (by with_unfolding_all rfl) rfl (by decide) (by with_unfolding_all rfl) (by decide) (by with_unfolding_all rfl) ⟨fun _ => am_rec_ok (c := 14) (by with_unfolding_all rfl) (by decide +kernel), fun z => by simp at z⟩
set_option maxRecDepth 20000 in
theorem b_244_24 {d nS : Nat} {x1 x2 x3 s1 : Int32} {M : am_M} {Q : Option Value → am_H → Prop} (h1 : vp_in s1 136) : am_Wp d 244 24 [.ref 205, .int x1, .int x2, .int x3] [.int s1, .ref 206] (hp nS M) Q = if (M 206 s1.toNatClampNeg) ≤ 0 then am_Wp d 244 30 [.ref 205, .int x1, .int x2, .int x3] [] (hp nS M) Q else am_Wp d 244 28 [.ref 205, .int x1, .int x2, .int x3] [] (hp nS M) Q := by
  refine (eq_ald (e := (.iaload, 1, 0, 0, 0)) (by with_unfolding_all rfl) rfl (n := 136) (by with_unfolding_all rfl) h1).trans ?_
  exact eq_if_le (by with_unfolding_all rfl)
set_option maxRecDepth 20000 in
theorem b_244_28 {d nS : Nat} {x1 x2 x3 : Int32} {M : am_M} {Q : Option Value → am_H → Prop} : am_Wp d 244 28 [.ref 205, .int x1, .int x2, .int x3] [] (hp nS M) Q = Q (some (.int 0)) (hp nS M) := by
  refine (eq_run 1 (q := (29, [.ref 205, .int x1, .int x2, .int x3], [.int 0], hp nS M)) (by with_unfolding_all rfl)).trans ?_
  exact eq_retI2 (e := (.ireturn, 1, 0, 0, 0)) (t := .boolean) (by with_unfolding_all rfl) rfl (by with_unfolding_all rfl) rfl
set_option maxRecDepth 20000 in
theorem b_244_30 {d nS : Nat} {x1 x2 x3 : Int32} {M : am_M} {Q : Option Value → am_H → Prop} (h1 : vp_in (28 + x3) 136) : am_Wp (d + 1) 244 30 [.ref 205, .int x1, .int x2, .int x3] [] (hp nS M) Q = am_Wp d 225 0 [.ref 205, .int x2, .int (M 206 (28 + x3).toNatClampNeg)] [] (hp nS M) (fun v h1 => am_Wp (d + 1) 244 44 [.ref 205, .int x1, .int x2, .int x3] (am_ans v []) h1 Q) := by
  refine (eq_run 7 (q := (40, [.ref 205, .int x1, .int x2, .int x3], [.int (28 + x3), .ref 206, .int x2, .ref 205], hp nS M)) (by with_unfolding_all rfl)).trans ?_
  refine (eq_ald (e := (.iaload, 1, 0, 0, 0)) (by with_unfolding_all rfl) rfl (n := 136) (by with_unfolding_all rfl) h1).trans ?_
  exact eq_call2 (e := (.invokevirtual 336, 3, 0, 225, 321)) (as := [.ref 205, .int x2, .int (M 206 (28 + x3).toNatClampNeg)]) (r := []) (n := 3) (m := 3) (by with_unfolding_all rfl) rfl (by decide) (by with_unfolding_all rfl) (by decide) (by with_unfolding_all rfl) ⟨fun _ => am_rec_ok (c := 14) (by with_unfolding_all rfl) (by decide +kernel), fun z => by simp at z⟩
set_option maxRecDepth 20000 in
theorem b_244_44 {d nS : Nat} {x1 x2 x3 s0 : Int32} {M : am_M} {Q : Option Value → am_H → Prop} : am_Wp d 244 44 [.ref 205, .int x1, .int x2, .int x3] [.int s0] (hp nS M) Q = am_Wp d 244 6 [.ref 205, .int x1, .int s0, .int (x3 + 1)] [] (hp nS M) Q := by
  exact eq_run 3 (q := (6, [.ref 205, .int x1, .int s0, .int (x3 + 1)], [], hp nS M)) (by with_unfolding_all rfl)
set_option maxRecDepth 20000 in
theorem b_244_51 {d nS : Nat} {x1 x2 x3 : Int32} {M : am_M} {Q : Option Value → am_H → Prop} : am_Wp d 244 51 [.ref 205, .int x1, .int x2, .int x3] [] (hp nS M) Q = if (M 205 9) ≤ 0 then am_Wp d 244 75 [.ref 205, .int x1, .int x2, .int x3] [] (hp nS M) Q else am_Wp d 244 58 [.ref 205, .int x1, .int x2, .int x3] [] (hp nS M) Q := by
  refine (eq_run 2 (q := (55, [.ref 205, .int x1, .int x2, .int x3], [.int (M 205 9)], hp nS M)) (by with_unfolding_all rfl)).trans ?_
  exact eq_if_le (by with_unfolding_all rfl)
set_option maxRecDepth 20000 in
theorem b_244_58 {d nS : Nat} {x1 x2 x3 : Int32} {M : am_M} {Q : Option Value → am_H → Prop} (h1 : vp_in (36 + x1) 136) : am_Wp d 244 58 [.ref 205, .int x1, .int x2, .int x3] [] (hp nS M) Q = if x2 ≤ (M 206 (36 + x1).toNatClampNeg) then am_Wp d 244 75 [.ref 205, .int x1, .int x2, .int x3] [] (hp nS M) Q else am_Wp d 244 71 [.ref 205, .int x1, .int x2, .int x3] [] (hp nS M) Q := by
  refine (eq_run 5 (q := (66, [.ref 205, .int x1, .int x2, .int x3], [.int (36 + x1), .ref 206], hp nS M)) (by with_unfolding_all rfl)).trans ?_
  refine (eq_ald (e := (.iaload, 1, 0, 0, 0)) (by with_unfolding_all rfl) rfl (n := 136) (by with_unfolding_all rfl) h1).trans ?_
  refine (eq_run 1 (q := (68, [.ref 205, .int x1, .int x2, .int x3], [.int x2, .int (M 206 (36 + x1).toNatClampNeg)], hp nS M)) (by with_unfolding_all rfl)).trans ?_
  exact eq_cmp_ge (by with_unfolding_all rfl)
set_option maxRecDepth 20000 in
theorem b_244_71 {d nS : Nat} {x1 x2 x3 : Int32} {M : am_M} {Q : Option Value → am_H → Prop} : am_Wp d 244 71 [.ref 205, .int x1, .int x2, .int x3] [] (hp nS M) Q = am_Wp d 244 76 [.ref 205, .int x1, .int x2, .int x3] [.int 1] (hp nS M) Q := by
  exact eq_run 2 (q := (76, [.ref 205, .int x1, .int x2, .int x3], [.int 1], hp nS M)) (by with_unfolding_all rfl)
set_option maxRecDepth 20000 in
theorem b_244_75 {d nS : Nat} {x1 x2 x3 : Int32} {M : am_M} {Q : Option Value → am_H → Prop} : am_Wp d 244 75 [.ref 205, .int x1, .int x2, .int x3] [] (hp nS M) Q = am_Wp d 244 76 [.ref 205, .int x1, .int x2, .int x3] [.int 0] (hp nS M) Q := by
  exact eq_run 1 (q := (76, [.ref 205, .int x1, .int x2, .int x3], [.int 0], hp nS M)) (by with_unfolding_all rfl)
set_option maxRecDepth 20000 in
theorem b_244_76 {d nS : Nat} {x1 x2 x3 s0 : Int32} {M : am_M} {Q : Option Value → am_H → Prop} (h1 : am_rok .boolean s0 = true) : am_Wp d 244 76 [.ref 205, .int x1, .int x2, .int x3] [.int s0] (hp nS M) Q = Q (some (.int s0)) (hp nS M) := by
  exact eq_retI2 (e := (.ireturn, 1, 0, 0, 0)) (t := .boolean) (by with_unfolding_all rfl) rfl (by with_unfolding_all rfl) h1
-- of(II)I
set_option maxRecDepth 20000 in
theorem b_245_0 {d nS : Nat} {x1 x2 : Int32} {M : am_M} {Q : Option Value → am_H → Prop} : am_Wp (d + 1) 245 0 [.ref 205, .int x1, .int x2] [] (hp nS M) Q = am_Wp d 177 0 [.ref 205, .int x1] [] (hp nS (am_up M 205 0 0)) (fun v h1 => am_Wp (d + 1) 245 10 [.ref 205, .int x1, .int x2] (am_ans v []) h1 Q) := by
  refine (eq_run 5 (q := (7, [.ref 205, .int x1, .int x2], [.int x1, .ref 205], hp nS (am_up M 205 0 0))) (by with_unfolding_all rfl)).trans ?_
  exact eq_call2 (e := (.invokevirtual 151, 3, 0, 177, 277)) (as := [.ref 205, .int x1]) (r := []) (n := 2) (m := 2) (by with_unfolding_all rfl) rfl (by decide) (by with_unfolding_all rfl) (by decide) (by with_unfolding_all rfl) ⟨fun _ => am_rec_ok (c := 14) (by with_unfolding_all rfl) (by decide +kernel), fun z => by simp at z⟩
set_option maxRecDepth 20000 in
theorem b_245_10 {d nS : Nat} {x1 x2 s0 : Int32} {M : am_M} {Q : Option Value → am_H → Prop} : am_Wp d 245 10 [.ref 205, .int x1, .int x2] [.int s0] (hp nS M) Q = if ¬ s0 = 0 then am_Wp d 245 15 [.ref 205, .int x1, .int x2] [] (hp nS M) Q else am_Wp d 245 13 [.ref 205, .int x1, .int x2] [] (hp nS M) Q := by
  exact eq_if_ne (by with_unfolding_all rfl)
set_option maxRecDepth 20000 in
theorem b_245_13 {d nS : Nat} {x1 x2 : Int32} {M : am_M} {Q : Option Value → am_H → Prop} : am_Wp d 245 13 [.ref 205, .int x1, .int x2] [] (hp nS M) Q = Q (some (.int (-1))) (hp nS M) := by
  refine (eq_run 1 (q := (14, [.ref 205, .int x1, .int x2], [.int (-1)], hp nS M)) (by with_unfolding_all rfl)).trans ?_
  exact eq_retI2 (e := (.ireturn, 1, 0, 0, 0)) (t := .int) (by with_unfolding_all rfl) rfl (by with_unfolding_all rfl) rfl
set_option maxRecDepth 20000 in
theorem b_245_15 {d nS : Nat} {x1 x2 : Int32} {M : am_M} {Q : Option Value → am_H → Prop} : am_Wp d 245 15 [.ref 205, .int x1, .int x2] [] (hp nS M) Q = if ¬ x2 = 0 then am_Wp d 245 26 [.ref 205, .int x1, .int x2] [] (hp nS M) Q else am_Wp d 245 19 [.ref 205, .int x1, .int x2] [] (hp nS M) Q := by
  refine (eq_run 1 (q := (16, [.ref 205, .int x1, .int x2], [.int x2], hp nS M)) (by with_unfolding_all rfl)).trans ?_
  exact eq_if_ne (by with_unfolding_all rfl)
set_option maxRecDepth 20000 in
theorem b_245_19 {d nS : Nat} {x1 x2 : Int32} {M : am_M} {Q : Option Value → am_H → Prop} (h1 : vp_in x1 6) : am_Wp d 245 19 [.ref 205, .int x1, .int x2] [] (hp nS M) Q = Q (some (.int (M 209 x1.toNatClampNeg))) (hp nS M) := by
  refine (eq_run 3 (q := (24, [.ref 205, .int x1, .int x2], [.int x1, .ref 209], hp nS M)) (by with_unfolding_all rfl)).trans ?_
  refine (eq_ald (e := (.iaload, 1, 0, 0, 0)) (by with_unfolding_all rfl) rfl (n := 6) (by with_unfolding_all rfl) h1).trans ?_
  exact eq_retI2 (e := (.ireturn, 1, 0, 0, 0)) (t := .int) (by with_unfolding_all rfl) rfl (by with_unfolding_all rfl) rfl
set_option maxRecDepth 20000 in
theorem b_245_26 {d nS : Nat} {x1 x2 : Int32} {M : am_M} {Q : Option Value → am_H → Prop} : am_Wp (d + 1) 245 26 [.ref 205, .int x1, .int x2] [] (hp nS M) Q = am_Wp d 171 0 [.ref 205, .int x2, .int 1, .int 4] [] (hp nS M) (fun v h1 => am_Wp (d + 1) 245 33 [.ref 205, .int x1, .int x2] (am_ans v []) h1 Q) := by
  refine (eq_run 4 (q := (30, [.ref 205, .int x1, .int x2], [.int 4, .int 1, .int x2, .ref 205], hp nS M)) (by with_unfolding_all rfl)).trans ?_
  exact eq_call2 (e := (.invokevirtual 144, 3, 0, 171, 275)) (as := [.ref 205, .int x2, .int 1, .int 4]) (r := []) (n := 4) (m := 4) (by with_unfolding_all rfl) rfl (by decide) (by with_unfolding_all rfl) (by decide) (by with_unfolding_all rfl) ⟨fun _ => am_rec_ok (c := 14) (by with_unfolding_all rfl) (by decide +kernel), fun z => by simp at z⟩
set_option maxRecDepth 20000 in
theorem b_245_33 {d nS : Nat} {x1 x2 s0 : Int32} {M : am_M} {Q : Option Value → am_H → Prop} : am_Wp d 245 33 [.ref 205, .int x1, .int x2] [.int s0] (hp nS M) Q = if s0 = 0 then am_Wp d 245 52 [.ref 205, .int x1, .int x2] [] (hp nS M) Q else am_Wp d 245 36 [.ref 205, .int x1, .int x2] [] (hp nS M) Q := by
  exact eq_if_eq (by with_unfolding_all rfl)
set_option maxRecDepth 20000 in
theorem b_245_36 {d nS : Nat} {x1 x2 : Int32} {M : am_M} {Q : Option Value → am_H → Prop} (h1 : vp_in ((4 + (6 * (x2 - 1))) + x1) 136) : am_Wp d 245 36 [.ref 205, .int x1, .int x2] [] (hp nS M) Q = Q (some (.int (M 206 ((4 + (6 * (x2 - 1))) + x1).toNatClampNeg))) (hp nS M) := by
  refine (eq_run 11 (q := (50, [.ref 205, .int x1, .int x2], [.int ((4 + (6 * (x2 - 1))) + x1), .ref 206], hp nS M)) (by with_unfolding_all rfl)).trans ?_
  refine (eq_ald (e := (.iaload, 1, 0, 0, 0)) (by with_unfolding_all rfl) rfl (n := 136) (by with_unfolding_all rfl) h1).trans ?_
  exact eq_retI2 (e := (.ireturn, 1, 0, 0, 0)) (t := .int) (by with_unfolding_all rfl) rfl (by with_unfolding_all rfl) rfl
set_option maxRecDepth 20000 in
theorem b_245_52 {d nS : Nat} {x1 x2 : Int32} {M : am_M} {Q : Option Value → am_H → Prop} : am_Wp d 245 52 [.ref 205, .int x1, .int x2] [] (hp nS M) Q = if ¬ x2 = 5 then am_Wp d 245 66 [.ref 205, .int x1, .int x2] [] (hp nS M) Q else am_Wp d 245 57 [.ref 205, .int x1, .int x2] [] (hp nS M) Q := by
  refine (eq_run 2 (q := (54, [.ref 205, .int x1, .int x2], [.int 5, .int x2], hp nS M)) (by with_unfolding_all rfl)).trans ?_
  exact eq_cmp_ne (by with_unfolding_all rfl)
set_option maxRecDepth 20000 in
theorem b_245_57 {d nS : Nat} {x1 x2 : Int32} {M : am_M} {Q : Option Value → am_H → Prop} : am_Wp (d + 1) 245 57 [.ref 205, .int x1, .int x2] [] (hp nS M) Q = am_Wp d 232 0 [.ref 205, .int x1, .int 0] [] (hp nS M) (fun v h1 => am_Wp (d + 1) 245 63 [.ref 205, .int x1, .int x2] (am_ans v []) h1 Q) := by
  refine (eq_run 3 (q := (60, [.ref 205, .int x1, .int x2], [.int 0, .int x1, .ref 205], hp nS M)) (by with_unfolding_all rfl)).trans ?_
  exact eq_call2 (e := (.invokevirtual 367, 3, 0, 232, 331)) (as := [.ref 205, .int x1, .int 0]) (r := []) (n := 3) (m := 3) (by with_unfolding_all rfl) rfl (by decide) (by with_unfolding_all rfl) (by decide) (by with_unfolding_all rfl) ⟨fun _ => am_rec_ok (c := 14) (by with_unfolding_all rfl) (by decide +kernel), fun z => by simp at z⟩
set_option maxRecDepth 20000 in
theorem b_245_63 {d nS : Nat} {x1 x2 s0 : Int32} {M : am_M} {Q : Option Value → am_H → Prop} : am_Wp d 245 63 [.ref 205, .int x1, .int x2] [.int s0] (hp nS M) Q = am_Wp d 245 96 [.ref 205, .int x1, .int x2] [.int s0] (hp nS M) Q := by
  exact eq_run 1 (q := (96, [.ref 205, .int x1, .int x2], [.int s0], hp nS M)) (by with_unfolding_all rfl)
set_option maxRecDepth 20000 in
theorem b_245_66 {d nS : Nat} {x1 x2 : Int32} {M : am_M} {Q : Option Value → am_H → Prop} : am_Wp d 245 66 [.ref 205, .int x1, .int x2] [] (hp nS M) Q = if ¬ x2 = 6 then am_Wp d 245 81 [.ref 205, .int x1, .int x2] [] (hp nS M) Q else am_Wp d 245 72 [.ref 205, .int x1, .int x2] [] (hp nS M) Q := by
  refine (eq_run 2 (q := (69, [.ref 205, .int x1, .int x2], [.int 6, .int x2], hp nS M)) (by with_unfolding_all rfl)).trans ?_
  exact eq_cmp_ne (by with_unfolding_all rfl)
set_option maxRecDepth 20000 in
theorem b_245_72 {d nS : Nat} {x1 x2 : Int32} {M : am_M} {Q : Option Value → am_H → Prop} : am_Wp (d + 1) 245 72 [.ref 205, .int x1, .int x2] [] (hp nS M) Q = am_Wp d 240 0 [.ref 205, .int x1, .int 0] [] (hp nS M) (fun v h1 => am_Wp (d + 1) 245 78 [.ref 205, .int x1, .int x2] (am_ans v []) h1 Q) := by
  refine (eq_run 3 (q := (75, [.ref 205, .int x1, .int x2], [.int 0, .int x1, .ref 205], hp nS M)) (by with_unfolding_all rfl)).trans ?_
  exact eq_call2 (e := (.invokevirtual 373, 3, 0, 240, 333)) (as := [.ref 205, .int x1, .int 0]) (r := []) (n := 3) (m := 3) (by with_unfolding_all rfl) rfl (by decide) (by with_unfolding_all rfl) (by decide) (by with_unfolding_all rfl) ⟨fun _ => am_rec_ok (c := 14) (by with_unfolding_all rfl) (by decide +kernel), fun z => by simp at z⟩
set_option maxRecDepth 20000 in
theorem b_245_78 {d nS : Nat} {x1 x2 s0 : Int32} {M : am_M} {Q : Option Value → am_H → Prop} : am_Wp d 245 78 [.ref 205, .int x1, .int x2] [.int s0] (hp nS M) Q = am_Wp d 245 96 [.ref 205, .int x1, .int x2] [.int s0] (hp nS M) Q := by
  exact eq_run 1 (q := (96, [.ref 205, .int x1, .int x2], [.int s0], hp nS M)) (by with_unfolding_all rfl)
set_option maxRecDepth 20000 in
theorem b_245_81 {d nS : Nat} {x1 x2 : Int32} {M : am_M} {Q : Option Value → am_H → Prop} : am_Wp d 245 81 [.ref 205, .int x1, .int x2] [] (hp nS M) Q = if ¬ x2 = 7 then am_Wp d 245 95 [.ref 205, .int x1, .int x2] [] (hp nS M) Q else am_Wp d 245 87 [.ref 205, .int x1, .int x2] [] (hp nS M) Q := by
  refine (eq_run 2 (q := (84, [.ref 205, .int x1, .int x2], [.int 7, .int x2], hp nS M)) (by with_unfolding_all rfl)).trans ?_
  exact eq_cmp_ne (by with_unfolding_all rfl)
set_option maxRecDepth 20000 in
theorem b_245_87 {d nS : Nat} {x1 x2 : Int32} {M : am_M} {Q : Option Value → am_H → Prop} : am_Wp (d + 1) 245 87 [.ref 205, .int x1, .int x2] [] (hp nS M) Q = am_Wp d 246 0 [.ref 205, .int x1, .retAddr 0, .retAddr 0] [] (hp nS M) (fun v h1 => am_Wp (d + 1) 245 92 [.ref 205, .int x1, .int x2] (am_ans v []) h1 Q) := by
  refine (eq_run 2 (q := (89, [.ref 205, .int x1, .int x2], [.int x1, .ref 205], hp nS M)) (by with_unfolding_all rfl)).trans ?_
  exact eq_call2 (e := (.invokevirtual 395, 3, 0, 246, 340)) (as := [.ref 205, .int x1]) (r := []) (n := 2) (m := 4) (by with_unfolding_all rfl) rfl (by decide) (by with_unfolding_all rfl) (by decide) (by with_unfolding_all rfl) ⟨fun _ => am_rec_ok (c := 14) (by with_unfolding_all rfl) (by decide +kernel), fun z => by simp at z⟩
set_option maxRecDepth 20000 in
theorem b_245_92 {d nS : Nat} {x1 x2 s0 : Int32} {M : am_M} {Q : Option Value → am_H → Prop} : am_Wp d 245 92 [.ref 205, .int x1, .int x2] [.int s0] (hp nS M) Q = am_Wp d 245 96 [.ref 205, .int x1, .int x2] [.int s0] (hp nS M) Q := by
  exact eq_run 1 (q := (96, [.ref 205, .int x1, .int x2], [.int s0], hp nS M)) (by with_unfolding_all rfl)
set_option maxRecDepth 20000 in
theorem b_245_95 {d nS : Nat} {x1 x2 : Int32} {M : am_M} {Q : Option Value → am_H → Prop} : am_Wp d 245 95 [.ref 205, .int x1, .int x2] [] (hp nS M) Q = am_Wp d 245 96 [.ref 205, .int x1, .int x2] [.int (-1)] (hp nS M) Q := by
  exact eq_run 1 (q := (96, [.ref 205, .int x1, .int x2], [.int (-1)], hp nS M)) (by with_unfolding_all rfl)
set_option maxRecDepth 20000 in
theorem b_245_96 {d nS : Nat} {x1 x2 s0 : Int32} {M : am_M} {Q : Option Value → am_H → Prop} : am_Wp d 245 96 [.ref 205, .int x1, .int x2] [.int s0] (hp nS M) Q = Q (some (.int s0)) (hp nS M) := by
  exact eq_retI2 (e := (.ireturn, 1, 0, 0, 0)) (t := .int) (by with_unfolding_all rfl) rfl (by with_unfolding_all rfl) rfl
-- goodsBy(I)I
set_option maxRecDepth 20000 in
theorem b_246_0 {d nS : Nat} {x1 : Int32} {M : am_M} {Q : Option Value → am_H → Prop} : am_Wp d 246 0 [.ref 205, .int x1, .retAddr 0, .retAddr 0] [] (hp nS M) Q = am_Wp d 246 4 [.ref 205, .int x1, .int 0, .int 0] [] (hp nS M) Q := by
  exact eq_run 4 (q := (4, [.ref 205, .int x1, .int 0, .int 0], [], hp nS M)) (by with_unfolding_all rfl)
set_option maxRecDepth 20000 in
theorem b_246_4 {d nS : Nat} {x1 x2 x3 : Int32} {M : am_M} {Q : Option Value → am_H → Prop} : am_Wp d 246 4 [.ref 205, .int x1, .int x2, .int x3] [] (hp nS M) Q = if (M 205 9) ≤ x3 then am_Wp d 246 36 [.ref 205, .int x1, .int x2, .int x3] [] (hp nS M) Q else am_Wp d 246 12 [.ref 205, .int x1, .int x2, .int x3] [] (hp nS M) Q := by
  refine (eq_run 3 (q := (9, [.ref 205, .int x1, .int x2, .int x3], [.int (M 205 9), .int x3], hp nS M)) (by with_unfolding_all rfl)).trans ?_
  exact eq_cmp_ge (by with_unfolding_all rfl)
set_option maxRecDepth 20000 in
theorem b_246_12 {d nS : Nat} {x1 x2 x3 : Int32} {M : am_M} {Q : Option Value → am_H → Prop} (h1 : vp_in x3 16) : am_Wp d 246 12 [.ref 205, .int x1, .int x2, .int x3] [] (hp nS M) Q = if ¬ (M 224 x3.toNatClampNeg) = (x1 + 1) then am_Wp d 246 30 [.ref 205, .int x1, .int x2, .int x3] [] (hp nS M) Q else am_Wp d 246 24 [.ref 205, .int x1, .int x2, .int x3] [] (hp nS M) Q := by
  refine (eq_run 3 (q := (17, [.ref 205, .int x1, .int x2, .int x3], [.int x3, .ref 224], hp nS M)) (by with_unfolding_all rfl)).trans ?_
  refine (eq_ald (e := (.iaload, 1, 0, 0, 0)) (by with_unfolding_all rfl) rfl (n := 16) (by with_unfolding_all rfl) h1).trans ?_
  refine (eq_run 3 (q := (21, [.ref 205, .int x1, .int x2, .int x3], [.int (x1 + 1), .int (M 224 x3.toNatClampNeg)], hp nS M)) (by with_unfolding_all rfl)).trans ?_
  exact eq_cmp_ne (by with_unfolding_all rfl)
set_option maxRecDepth 20000 in
theorem b_246_24 {d nS : Nat} {x1 x2 x3 : Int32} {M : am_M} {Q : Option Value → am_H → Prop} : am_Wp d 246 24 [.ref 205, .int x1, .int x2, .int x3] [] (hp nS M) Q = am_Wp d 246 30 [.ref 205, .int x1, .int (x2 ||| (1 <<< (x3 &&& 31))), .int x3] [] (hp nS M) Q := by
  exact eq_run 6 (q := (30, [.ref 205, .int x1, .int (x2 ||| (1 <<< (x3 &&& 31))), .int x3], [], hp nS M)) (by with_unfolding_all rfl)
set_option maxRecDepth 20000 in
theorem b_246_30 {d nS : Nat} {x1 x2 x3 : Int32} {M : am_M} {Q : Option Value → am_H → Prop} : am_Wp d 246 30 [.ref 205, .int x1, .int x2, .int x3] [] (hp nS M) Q = am_Wp d 246 4 [.ref 205, .int x1, .int x2, .int (x3 + 1)] [] (hp nS M) Q := by
  exact eq_run 2 (q := (4, [.ref 205, .int x1, .int x2, .int (x3 + 1)], [], hp nS M)) (by with_unfolding_all rfl)
set_option maxRecDepth 20000 in
theorem b_246_36 {d nS : Nat} {x1 x2 x3 : Int32} {M : am_M} {Q : Option Value → am_H → Prop} : am_Wp d 246 36 [.ref 205, .int x1, .int x2, .int x3] [] (hp nS M) Q = Q (some (.int x2)) (hp nS M) := by
  refine (eq_run 1 (q := (37, [.ref 205, .int x1, .int x2, .int x3], [.int x2], hp nS M)) (by with_unfolding_all rfl)).trans ?_
  exact eq_retI2 (e := (.ireturn, 1, 0, 0, 0)) (t := .int) (by with_unfolding_all rfl) rfl (by with_unfolding_all rfl) rfl
-- goodOf(II)I
set_option maxRecDepth 20000 in
theorem b_247_0 {d nS : Nat} {x1 x2 : Int32} {M : am_M} {Q : Option Value → am_H → Prop} : am_Wp (d + 1) 247 0 [.ref 205, .int x1, .int x2, .retAddr 0, .retAddr 0] [] (hp nS M) Q = am_Wp d 178 0 [.ref 205, .int x1] [] (hp nS (am_up M 205 0 0)) (fun v h1 => am_Wp (d + 1) 247 10 [.ref 205, .int x1, .int x2, .retAddr 0, .retAddr 0] (am_ans v []) h1 Q) := by
  refine (eq_run 5 (q := (7, [.ref 205, .int x1, .int x2, .retAddr 0, .retAddr 0], [.int x1, .ref 205], hp nS (am_up M 205 0 0))) (by with_unfolding_all rfl)).trans ?_
  exact eq_call2 (e := (.invokevirtual 155, 3, 0, 178, 278)) (as := [.ref 205, .int x1]) (r := []) (n := 2) (m := 2) (by with_unfolding_all rfl) rfl (by decide) (by with_unfolding_all rfl) (by decide) (by with_unfolding_all rfl) ⟨fun _ => am_rec_ok (c := 14) (by with_unfolding_all rfl) (by decide +kernel), fun z => by simp at z⟩
set_option maxRecDepth 20000 in
theorem b_247_10 {d nS : Nat} {x1 x2 s0 : Int32} {M : am_M} {Q : Option Value → am_H → Prop} : am_Wp d 247 10 [.ref 205, .int x1, .int x2, .retAddr 0, .retAddr 0] [.int s0] (hp nS M) Q = if s0 = 0 then am_Wp d 247 23 [.ref 205, .int x1, .int x2, .retAddr 0, .retAddr 0] [] (hp nS M) Q else am_Wp d 247 13 [.ref 205, .int x1, .int x2, .retAddr 0, .retAddr 0] [] (hp nS M) Q := by
  exact eq_if_eq (by with_unfolding_all rfl)
set_option maxRecDepth 20000 in
theorem b_247_13 {d nS : Nat} {x1 x2 : Int32} {M : am_M} {Q : Option Value → am_H → Prop} : am_Wp (d + 1) 247 13 [.ref 205, .int x1, .int x2, .retAddr 0, .retAddr 0] [] (hp nS M) Q = am_Wp d 171 0 [.ref 205, .int x2, .int 0, .int 4] [] (hp nS M) (fun v h1 => am_Wp (d + 1) 247 20 [.ref 205, .int x1, .int x2, .retAddr 0, .retAddr 0] (am_ans v []) h1 Q) := by
  refine (eq_run 4 (q := (17, [.ref 205, .int x1, .int x2, .retAddr 0, .retAddr 0], [.int 4, .int 0, .int x2, .ref 205], hp nS M)) (by with_unfolding_all rfl)).trans ?_
  exact eq_call2 (e := (.invokevirtual 144, 3, 0, 171, 275)) (as := [.ref 205, .int x2, .int 0, .int 4]) (r := []) (n := 4) (m := 4) (by with_unfolding_all rfl) rfl (by decide) (by with_unfolding_all rfl) (by decide) (by with_unfolding_all rfl) ⟨fun _ => am_rec_ok (c := 14) (by with_unfolding_all rfl) (by decide +kernel), fun z => by simp at z⟩
set_option maxRecDepth 20000 in
theorem b_247_20 {d nS : Nat} {x1 x2 s0 : Int32} {M : am_M} {Q : Option Value → am_H → Prop} : am_Wp d 247 20 [.ref 205, .int x1, .int x2, .retAddr 0, .retAddr 0] [.int s0] (hp nS M) Q = if ¬ s0 = 0 then am_Wp d 247 26 [.ref 205, .int x1, .int x2, .retAddr 0, .retAddr 0] [] (hp nS M) Q else am_Wp d 247 23 [.ref 205, .int x1, .int x2, .retAddr 0, .retAddr 0] [] (hp nS M) Q := by
  exact eq_if_ne (by with_unfolding_all rfl)
set_option maxRecDepth 20000 in
theorem b_247_23 {d nS : Nat} {x1 x2 : Int32} {M : am_M} {Q : Option Value → am_H → Prop} : am_Wp d 247 23 [.ref 205, .int x1, .int x2, .retAddr 0, .retAddr 0] [] (hp nS M) Q = Q (some (.int (-2))) (hp nS M) := by
  refine (eq_run 1 (q := (25, [.ref 205, .int x1, .int x2, .retAddr 0, .retAddr 0], [.int (-2)], hp nS M)) (by with_unfolding_all rfl)).trans ?_
  exact eq_retI2 (e := (.ireturn, 1, 0, 0, 0)) (t := .int) (by with_unfolding_all rfl) rfl (by with_unfolding_all rfl) rfl
set_option maxRecDepth 20000 in
theorem b_247_26 {d nS : Nat} {x1 x2 : Int32} {M : am_M} {Q : Option Value → am_H → Prop} : am_Wp d 247 26 [.ref 205, .int x1, .int x2, .retAddr 0, .retAddr 0] [] (hp nS M) Q = if ¬ x2 = 0 then am_Wp d 247 37 [.ref 205, .int x1, .int x2, .retAddr 0, .retAddr 0] [] (hp nS M) Q else am_Wp d 247 30 [.ref 205, .int x1, .int x2, .retAddr 0, .retAddr 0] [] (hp nS M) Q := by
  refine (eq_run 1 (q := (27, [.ref 205, .int x1, .int x2, .retAddr 0, .retAddr 0], [.int x2], hp nS M)) (by with_unfolding_all rfl)).trans ?_
  exact eq_if_ne (by with_unfolding_all rfl)
set_option maxRecDepth 20000 in
theorem b_247_30 {d nS : Nat} {x1 x2 : Int32} {M : am_M} {Q : Option Value → am_H → Prop} (h1 : vp_in x1 8) : am_Wp d 247 30 [.ref 205, .int x1, .int x2, .retAddr 0, .retAddr 0] [] (hp nS M) Q = Q (some (.int (M 210 x1.toNatClampNeg))) (hp nS M) := by
  refine (eq_run 3 (q := (35, [.ref 205, .int x1, .int x2, .retAddr 0, .retAddr 0], [.int x1, .ref 210], hp nS M)) (by with_unfolding_all rfl)).trans ?_
  refine (eq_ald (e := (.iaload, 1, 0, 0, 0)) (by with_unfolding_all rfl) rfl (n := 8) (by with_unfolding_all rfl) h1).trans ?_
  exact eq_retI2 (e := (.ireturn, 1, 0, 0, 0)) (t := .int) (by with_unfolding_all rfl) rfl (by with_unfolding_all rfl) rfl
set_option maxRecDepth 20000 in
theorem b_247_37 {d nS : Nat} {x1 x2 : Int32} {M : am_M} {Q : Option Value → am_H → Prop} : am_Wp d 247 37 [.ref 205, .int x1, .int x2, .retAddr 0, .retAddr 0] [] (hp nS M) Q = if ¬ x2 = 1 then am_Wp d 247 51 [.ref 205, .int x1, .int x2, .retAddr 0, .retAddr 0] [] (hp nS M) Q else am_Wp d 247 42 [.ref 205, .int x1, .int x2, .retAddr 0, .retAddr 0] [] (hp nS M) Q := by
  refine (eq_run 2 (q := (39, [.ref 205, .int x1, .int x2, .retAddr 0, .retAddr 0], [.int 1, .int x2], hp nS M)) (by with_unfolding_all rfl)).trans ?_
  exact eq_cmp_ne (by with_unfolding_all rfl)
set_option maxRecDepth 20000 in
theorem b_247_42 {d nS : Nat} {x1 x2 : Int32} {M : am_M} {Q : Option Value → am_H → Prop} (h1 : vp_in x1 16) : am_Wp d 247 42 [.ref 205, .int x1, .int x2, .retAddr 0, .retAddr 0] [] (hp nS M) Q = Q (some (.int ((M 224 x1.toNatClampNeg) - 1))) (hp nS M) := by
  refine (eq_run 3 (q := (47, [.ref 205, .int x1, .int x2, .retAddr 0, .retAddr 0], [.int x1, .ref 224], hp nS M)) (by with_unfolding_all rfl)).trans ?_
  refine (eq_ald (e := (.iaload, 1, 0, 0, 0)) (by with_unfolding_all rfl) rfl (n := 16) (by with_unfolding_all rfl) h1).trans ?_
  refine (eq_run 2 (q := (50, [.ref 205, .int x1, .int x2, .retAddr 0, .retAddr 0], [.int ((M 224 x1.toNatClampNeg) - 1)], hp nS M)) (by with_unfolding_all rfl)).trans ?_
  exact eq_retI2 (e := (.ireturn, 1, 0, 0, 0)) (t := .int) (by with_unfolding_all rfl) rfl (by with_unfolding_all rfl) rfl
set_option maxRecDepth 20000 in
theorem b_247_51 {d nS : Nat} {x1 x2 : Int32} {M : am_M} {Q : Option Value → am_H → Prop} : am_Wp d 247 51 [.ref 205, .int x1, .int x2, .retAddr 0, .retAddr 0] [] (hp nS M) Q = if ¬ x2 = 2 then am_Wp d 247 66 [.ref 205, .int x1, .int x2, .retAddr 0, .retAddr 0] [] (hp nS M) Q else am_Wp d 247 56 [.ref 205, .int x1, .int x2, .retAddr 0, .retAddr 0] [] (hp nS M) Q := by
  refine (eq_run 2 (q := (53, [.ref 205, .int x1, .int x2, .retAddr 0, .retAddr 0], [.int 2, .int x2], hp nS M)) (by with_unfolding_all rfl)).trans ?_
  exact eq_cmp_ne (by with_unfolding_all rfl)
set_option maxRecDepth 20000 in
theorem b_247_56 {d nS : Nat} {x1 x2 : Int32} {M : am_M} {Q : Option Value → am_H → Prop} (h1 : vp_in (28 + x1) 136) : am_Wp d 247 56 [.ref 205, .int x1, .int x2, .retAddr 0, .retAddr 0] [] (hp nS M) Q = Q (some (.int (M 206 (28 + x1).toNatClampNeg))) (hp nS M) := by
  refine (eq_run 5 (q := (64, [.ref 205, .int x1, .int x2, .retAddr 0, .retAddr 0], [.int (28 + x1), .ref 206], hp nS M)) (by with_unfolding_all rfl)).trans ?_
  refine (eq_ald (e := (.iaload, 1, 0, 0, 0)) (by with_unfolding_all rfl) rfl (n := 136) (by with_unfolding_all rfl) h1).trans ?_
  exact eq_retI2 (e := (.ireturn, 1, 0, 0, 0)) (t := .int) (by with_unfolding_all rfl) rfl (by with_unfolding_all rfl) rfl
set_option maxRecDepth 20000 in
theorem b_247_66 {d nS : Nat} {x1 x2 : Int32} {M : am_M} {Q : Option Value → am_H → Prop} : am_Wp d 247 66 [.ref 205, .int x1, .int x2, .retAddr 0, .retAddr 0] [] (hp nS M) Q = if ¬ x2 = 3 then am_Wp d 247 77 [.ref 205, .int x1, .int x2, .retAddr 0, .retAddr 0] [] (hp nS M) Q else am_Wp d 247 71 [.ref 205, .int x1, .int x2, .retAddr 0, .retAddr 0] [] (hp nS M) Q := by
  refine (eq_run 2 (q := (68, [.ref 205, .int x1, .int x2, .retAddr 0, .retAddr 0], [.int 3, .int x2], hp nS M)) (by with_unfolding_all rfl)).trans ?_
  exact eq_cmp_ne (by with_unfolding_all rfl)
set_option maxRecDepth 20000 in
theorem b_247_71 {d nS : Nat} {x1 x2 : Int32} {M : am_M} {Q : Option Value → am_H → Prop} : am_Wp (d + 1) 247 71 [.ref 205, .int x1, .int x2, .retAddr 0, .retAddr 0] [] (hp nS M) Q = am_Wp d 243 0 [.ref 205, .int x1] [] (hp nS M) (fun v h1 => am_Wp (d + 1) 247 76 [.ref 205, .int x1, .int x2, .retAddr 0, .retAddr 0] (am_ans v []) h1 Q) := by
  refine (eq_run 2 (q := (73, [.ref 205, .int x1, .int x2, .retAddr 0, .retAddr 0], [.int x1, .ref 205], hp nS M)) (by with_unfolding_all rfl)).trans ?_
  exact eq_call2 (e := (.invokevirtual 386, 3, 0, 243, 337)) (as := [.ref 205, .int x1]) (r := []) (n := 2) (m := 2) (by with_unfolding_all rfl) rfl (by decide) (by with_unfolding_all rfl) (by decide) (by with_unfolding_all rfl) ⟨fun _ => am_rec_ok (c := 14) (by with_unfolding_all rfl) (by decide +kernel), fun z => by simp at z⟩
set_option maxRecDepth 20000 in
theorem b_247_76 {d nS : Nat} {x1 x2 s0 : Int32} {M : am_M} {Q : Option Value → am_H → Prop} : am_Wp d 247 76 [.ref 205, .int x1, .int x2, .retAddr 0, .retAddr 0] [.int s0] (hp nS M) Q = Q (some (.int s0)) (hp nS M) := by
  exact eq_retI2 (e := (.ireturn, 1, 0, 0, 0)) (t := .int) (by with_unfolding_all rfl) rfl (by with_unfolding_all rfl) rfl
set_option maxRecDepth 20000 in
theorem b_247_77 {d nS : Nat} {x1 x2 : Int32} {M : am_M} {Q : Option Value → am_H → Prop} : am_Wp d 247 77 [.ref 205, .int x1, .int x2, .retAddr 0, .retAddr 0] [] (hp nS M) Q = am_Wp d 247 82 [.ref 205, .int x1, .int x2, .int 0, .int 0] [] (hp nS M) Q := by
  exact eq_run 4 (q := (82, [.ref 205, .int x1, .int x2, .int 0, .int 0], [], hp nS M)) (by with_unfolding_all rfl)
set_option maxRecDepth 20000 in
theorem b_247_82 {d nS : Nat} {x1 x2 x3 x4 : Int32} {M : am_M} {Q : Option Value → am_H → Prop} : am_Wp d 247 82 [.ref 205, .int x1, .int x2, .int x3, .int x4] [] (hp nS M) Q = if (M 205 10) ≤ x4 then am_Wp d 247 112 [.ref 205, .int x1, .int x2, .int x3, .int x4] [] (hp nS M) Q else am_Wp d 247 91 [.ref 205, .int x1, .int x2, .int x3, .int x4] [] (hp nS M) Q := by
  refine (eq_run 3 (q := (88, [.ref 205, .int x1, .int x2, .int x3, .int x4], [.int (M 205 10), .int x4], hp nS M)) (by with_unfolding_all rfl)).trans ?_
  exact eq_cmp_ge (by with_unfolding_all rfl)
set_option maxRecDepth 20000 in
theorem b_247_91 {d nS : Nat} {x1 x2 x3 x4 : Int32} {M : am_M} {Q : Option Value → am_H → Prop} : am_Wp (d + 1) 247 91 [.ref 205, .int x1, .int x2, .int x3, .int x4] [] (hp nS M) Q = am_Wp d 173 0 [.ref 205, .int x4, .int x1] [] (hp nS M) (fun v h1 => am_Wp (d + 1) 247 103 [.ref 205, .int x1, .int x2, .int x3, .int x4] (am_ans v [.ref 206, .int x3]) h1 Q) := by
  refine (eq_run 6 (q := (100, [.ref 205, .int x1, .int x2, .int x3, .int x4], [.int x1, .int x4, .ref 205, .ref 206, .int x3], hp nS M)) (by with_unfolding_all rfl)).trans ?_
  exact eq_call2 (e := (.invokevirtual 148, 3, 0, 173, 276)) (as := [.ref 205, .int x4, .int x1]) (r := [.ref 206, .int x3]) (n := 3) (m := 3) (by with_unfolding_all rfl) rfl (by decide) (by with_unfolding_all rfl) (by decide) (by with_unfolding_all rfl) ⟨fun _ => am_rec_ok (c := 14) (by with_unfolding_all rfl) (by decide +kernel), fun z => by simp at z⟩
set_option maxRecDepth 20000 in
theorem b_247_103 {d nS : Nat} {x1 x2 x3 x4 s0 s2 : Int32} {M : am_M} {Q : Option Value → am_H → Prop} (h1 : vp_in s2 136) : am_Wp d 247 103 [.ref 205, .int x1, .int x2, .int x3, .int x4] [.int s2, .ref 206, .int s0] (hp nS M) Q = am_Wp d 247 82 [.ref 205, .int x1, .int x2, .int (s0 + (M 206 s2.toNatClampNeg)), .int (x4 + 1)] [] (hp nS M) Q := by
  refine (eq_ald (e := (.iaload, 1, 0, 0, 0)) (by with_unfolding_all rfl) rfl (n := 136) (by with_unfolding_all rfl) h1).trans ?_
  exact eq_run 4 (q := (82, [.ref 205, .int x1, .int x2, .int (s0 + (M 206 s2.toNatClampNeg)), .int (x4 + 1)], [], hp nS M)) (by with_unfolding_all rfl)
set_option maxRecDepth 20000 in
theorem b_247_112 {d nS : Nat} {x1 x2 x3 x4 : Int32} {M : am_M} {Q : Option Value → am_H → Prop} : am_Wp d 247 112 [.ref 205, .int x1, .int x2, .int x3, .int x4] [] (hp nS M) Q = Q (some (.int x3)) (hp nS M) := by
  refine (eq_run 1 (q := (113, [.ref 205, .int x1, .int x2, .int x3, .int x4], [.int x3], hp nS M)) (by with_unfolding_all rfl)).trans ?_
  exact eq_retI2 (e := (.ireturn, 1, 0, 0, 0)) (t := .int) (by with_unfolding_all rfl) rfl (by with_unfolding_all rfl) rfl
-- who(II)I
set_option maxRecDepth 20000 in
theorem b_248_0 {d nS : Nat} {x1 x2 : Int32} {M : am_M} {Q : Option Value → am_H → Prop} : am_Wp (d + 1) 248 0 [.ref 205, .int x1, .int x2] [] (hp nS M) Q = am_Wp d 179 0 [.ref 205, .int x1] [] (hp nS (am_up M 205 0 0)) (fun v h1 => am_Wp (d + 1) 248 10 [.ref 205, .int x1, .int x2] (am_ans v []) h1 Q) := by
  refine (eq_run 5 (q := (7, [.ref 205, .int x1, .int x2], [.int x1, .ref 205], hp nS (am_up M 205 0 0))) (by with_unfolding_all rfl)).trans ?_
  exact eq_call2 (e := (.invokevirtual 158, 3, 0, 179, 279)) (as := [.ref 205, .int x1]) (r := []) (n := 2) (m := 2) (by with_unfolding_all rfl) rfl (by decide) (by with_unfolding_all rfl) (by decide) (by with_unfolding_all rfl) ⟨fun _ => am_rec_ok (c := 14) (by with_unfolding_all rfl) (by decide +kernel), fun z => by simp at z⟩
set_option maxRecDepth 20000 in
theorem b_248_10 {d nS : Nat} {x1 x2 s0 : Int32} {M : am_M} {Q : Option Value → am_H → Prop} : am_Wp d 248 10 [.ref 205, .int x1, .int x2] [.int s0] (hp nS M) Q = if ¬ s0 = 0 then am_Wp d 248 16 [.ref 205, .int x1, .int x2] [] (hp nS M) Q else am_Wp d 248 13 [.ref 205, .int x1, .int x2] [] (hp nS M) Q := by
  exact eq_if_ne (by with_unfolding_all rfl)
set_option maxRecDepth 20000 in
theorem b_248_13 {d nS : Nat} {x1 x2 : Int32} {M : am_M} {Q : Option Value → am_H → Prop} : am_Wp d 248 13 [.ref 205, .int x1, .int x2] [] (hp nS M) Q = Q (some (.int (-10))) (hp nS M) := by
  refine (eq_run 1 (q := (15, [.ref 205, .int x1, .int x2], [.int (-10)], hp nS M)) (by with_unfolding_all rfl)).trans ?_
  exact eq_retI2 (e := (.ireturn, 1, 0, 0, 0)) (t := .int) (by with_unfolding_all rfl) rfl (by with_unfolding_all rfl) rfl
set_option maxRecDepth 20000 in
theorem b_248_16 {d nS : Nat} {x1 x2 : Int32} {M : am_M} {Q : Option Value → am_H → Prop} : am_Wp d 248 16 [.ref 205, .int x1, .int x2] [] (hp nS M) Q = if ¬ x2 = 0 then am_Wp d 248 30 [.ref 205, .int x1, .int x2] [] (hp nS M) Q else am_Wp d 248 20 [.ref 205, .int x1, .int x2] [] (hp nS M) Q := by
  refine (eq_run 1 (q := (17, [.ref 205, .int x1, .int x2], [.int x2], hp nS M)) (by with_unfolding_all rfl)).trans ?_
  exact eq_if_ne (by with_unfolding_all rfl)
set_option maxRecDepth 20000 in
theorem b_248_20 {d nS : Nat} {x1 x2 : Int32} {M : am_M} {Q : Option Value → am_H → Prop} (h1 : vp_in (36 + x1) 136) : am_Wp d 248 20 [.ref 205, .int x1, .int x2] [] (hp nS M) Q = Q (some (.int (M 206 (36 + x1).toNatClampNeg))) (hp nS M) := by
  refine (eq_run 5 (q := (28, [.ref 205, .int x1, .int x2], [.int (36 + x1), .ref 206], hp nS M)) (by with_unfolding_all rfl)).trans ?_
  refine (eq_ald (e := (.iaload, 1, 0, 0, 0)) (by with_unfolding_all rfl) rfl (n := 136) (by with_unfolding_all rfl) h1).trans ?_
  exact eq_retI2 (e := (.ireturn, 1, 0, 0, 0)) (t := .int) (by with_unfolding_all rfl) rfl (by with_unfolding_all rfl) rfl
set_option maxRecDepth 20000 in
theorem b_248_30 {d nS : Nat} {x1 x2 : Int32} {M : am_M} {Q : Option Value → am_H → Prop} : am_Wp d 248 30 [.ref 205, .int x1, .int x2] [] (hp nS M) Q = if ¬ x2 = 1 then am_Wp d 248 45 [.ref 205, .int x1, .int x2] [] (hp nS M) Q else am_Wp d 248 35 [.ref 205, .int x1, .int x2] [] (hp nS M) Q := by
  refine (eq_run 2 (q := (32, [.ref 205, .int x1, .int x2], [.int 1, .int x2], hp nS M)) (by with_unfolding_all rfl)).trans ?_
  exact eq_cmp_ne (by with_unfolding_all rfl)
set_option maxRecDepth 20000 in
theorem b_248_35 {d nS : Nat} {x1 x2 : Int32} {M : am_M} {Q : Option Value → am_H → Prop} (h1 : vp_in (46 + x1) 136) : am_Wp d 248 35 [.ref 205, .int x1, .int x2] [] (hp nS M) Q = Q (some (.int (M 206 (46 + x1).toNatClampNeg))) (hp nS M) := by
  refine (eq_run 5 (q := (43, [.ref 205, .int x1, .int x2], [.int (46 + x1), .ref 206], hp nS M)) (by with_unfolding_all rfl)).trans ?_
  refine (eq_ald (e := (.iaload, 1, 0, 0, 0)) (by with_unfolding_all rfl) rfl (n := 136) (by with_unfolding_all rfl) h1).trans ?_
  exact eq_retI2 (e := (.ireturn, 1, 0, 0, 0)) (t := .int) (by with_unfolding_all rfl) rfl (by with_unfolding_all rfl) rfl
set_option maxRecDepth 20000 in
theorem b_248_45 {d nS : Nat} {x1 x2 : Int32} {M : am_M} {Q : Option Value → am_H → Prop} : am_Wp d 248 45 [.ref 205, .int x1, .int x2] [] (hp nS M) Q = if ¬ x2 = 2 then am_Wp d 248 58 [.ref 205, .int x1, .int x2] [] (hp nS M) Q else am_Wp d 248 50 [.ref 205, .int x1, .int x2] [] (hp nS M) Q := by
  refine (eq_run 2 (q := (47, [.ref 205, .int x1, .int x2], [.int 2, .int x2], hp nS M)) (by with_unfolding_all rfl)).trans ?_
  exact eq_cmp_ne (by with_unfolding_all rfl)
set_option maxRecDepth 20000 in
theorem b_248_50 {d nS : Nat} {x1 x2 : Int32} {M : am_M} {Q : Option Value → am_H → Prop} : am_Wp (d + 1) 248 50 [.ref 205, .int x1, .int x2] [] (hp nS M) Q = am_Wp d 249 0 [.ref 205, .int x1, .retAddr 0, .retAddr 0] [] (hp nS M) (fun v h1 => am_Wp (d + 1) 248 55 [.ref 205, .int x1, .int x2] (am_ans v []) h1 Q) := by
  refine (eq_run 2 (q := (52, [.ref 205, .int x1, .int x2], [.int x1, .ref 205], hp nS M)) (by with_unfolding_all rfl)).trans ?_
  exact eq_call2 (e := (.invokevirtual 398, 3, 0, 249, 341)) (as := [.ref 205, .int x1]) (r := []) (n := 2) (m := 4) (by with_unfolding_all rfl) rfl (by decide) (by with_unfolding_all rfl) (by decide) (by with_unfolding_all rfl) ⟨fun _ => am_rec_ok (c := 14) (by with_unfolding_all rfl) (by decide +kernel), fun z => by simp at z⟩
set_option maxRecDepth 20000 in
theorem b_248_55 {d nS : Nat} {x1 x2 s0 : Int32} {M : am_M} {Q : Option Value → am_H → Prop} : am_Wp d 248 55 [.ref 205, .int x1, .int x2] [.int s0] (hp nS M) Q = am_Wp d 248 94 [.ref 205, .int x1, .int x2] [.int s0] (hp nS M) Q := by
  exact eq_run 1 (q := (94, [.ref 205, .int x1, .int x2], [.int s0], hp nS M)) (by with_unfolding_all rfl)
set_option maxRecDepth 20000 in
theorem b_248_58 {d nS : Nat} {x1 x2 : Int32} {M : am_M} {Q : Option Value → am_H → Prop} : am_Wp (d + 1) 248 58 [.ref 205, .int x1, .int x2] [] (hp nS M) Q = am_Wp d 171 0 [.ref 205, .int x2, .int 10, .int (9 + (M 205 9))] [] (hp nS M) (fun v h1 => am_Wp (d + 1) 248 72 [.ref 205, .int x1, .int x2] (am_ans v []) h1 Q) := by
  refine (eq_run 7 (q := (69, [.ref 205, .int x1, .int x2], [.int (9 + (M 205 9)), .int 10, .int x2, .ref 205], hp nS M)) (by with_unfolding_all rfl)).trans ?_
  exact eq_call2 (e := (.invokevirtual 144, 3, 0, 171, 275)) (as := [.ref 205, .int x2, .int 10, .int (9 + (M 205 9))]) (r := []) (n := 4) (m := 4) (by with_unfolding_all rfl) rfl (by decide) (by with_unfolding_all rfl) (by decide) (by with_unfolding_all rfl) ⟨fun _ => am_rec_ok (c := 14) (by with_unfolding_all rfl) (by decide +kernel), fun z => by simp at z⟩
set_option maxRecDepth 20000 in
theorem b_248_72 {d nS : Nat} {x1 x2 s0 : Int32} {M : am_M} {Q : Option Value → am_H → Prop} : am_Wp d 248 72 [.ref 205, .int x1, .int x2] [.int s0] (hp nS M) Q = if s0 = 0 then am_Wp d 248 92 [.ref 205, .int x1, .int x2] [] (hp nS M) Q else am_Wp d 248 75 [.ref 205, .int x1, .int x2] [] (hp nS M) Q := by
  exact eq_if_eq (by with_unfolding_all rfl)
set_option maxRecDepth 20000 in
theorem b_248_75 {d nS : Nat} {x1 x2 : Int32} {M : am_M} {Q : Option Value → am_H → Prop} : am_Wp (d + 1) 248 75 [.ref 205, .int x1, .int x2] [] (hp nS M) Q = am_Wp d 173 0 [.ref 205, .int x1, .int (x2 - 10)] [] (hp nS M) (fun v h1 => am_Wp (d + 1) 248 88 [.ref 205, .int x1, .int x2] (am_ans v [.ref 206]) h1 Q) := by
  refine (eq_run 7 (q := (85, [.ref 205, .int x1, .int x2], [.int (x2 - 10), .int x1, .ref 205, .ref 206], hp nS M)) (by with_unfolding_all rfl)).trans ?_
  exact eq_call2 (e := (.invokevirtual 148, 3, 0, 173, 276)) (as := [.ref 205, .int x1, .int (x2 - 10)]) (r := [.ref 206]) (n := 3) (m := 3) (by with_unfolding_all rfl) rfl (by decide) (by with_unfolding_all rfl) (by decide) (by with_unfolding_all rfl) ⟨fun _ => am_rec_ok (c := 14) (by with_unfolding_all rfl) (by decide +kernel), fun z => by simp at z⟩
set_option maxRecDepth 20000 in
theorem b_248_88 {d nS : Nat} {x1 x2 s1 : Int32} {M : am_M} {Q : Option Value → am_H → Prop} (h1 : vp_in s1 136) : am_Wp d 248 88 [.ref 205, .int x1, .int x2] [.int s1, .ref 206] (hp nS M) Q = am_Wp d 248 94 [.ref 205, .int x1, .int x2] [.int (M 206 s1.toNatClampNeg)] (hp nS M) Q := by
  refine (eq_ald (e := (.iaload, 1, 0, 0, 0)) (by with_unfolding_all rfl) rfl (n := 136) (by with_unfolding_all rfl) h1).trans ?_
  exact eq_run 1 (q := (94, [.ref 205, .int x1, .int x2], [.int (M 206 s1.toNatClampNeg)], hp nS M)) (by with_unfolding_all rfl)
set_option maxRecDepth 20000 in
theorem b_248_92 {d nS : Nat} {x1 x2 : Int32} {M : am_M} {Q : Option Value → am_H → Prop} : am_Wp d 248 92 [.ref 205, .int x1, .int x2] [] (hp nS M) Q = am_Wp d 248 94 [.ref 205, .int x1, .int x2] [.int (-10)] (hp nS M) Q := by
  exact eq_run 1 (q := (94, [.ref 205, .int x1, .int x2], [.int (-10)], hp nS M)) (by with_unfolding_all rfl)
set_option maxRecDepth 20000 in
theorem b_248_94 {d nS : Nat} {x1 x2 s0 : Int32} {M : am_M} {Q : Option Value → am_H → Prop} : am_Wp d 248 94 [.ref 205, .int x1, .int x2] [.int s0] (hp nS M) Q = Q (some (.int s0)) (hp nS M) := by
  exact eq_retI2 (e := (.ireturn, 1, 0, 0, 0)) (t := .int) (by with_unfolding_all rfl) rfl (by with_unfolding_all rfl) rfl
-- worthOf(I)I
set_option maxRecDepth 20000 in
theorem b_249_0 {d nS : Nat} {x1 : Int32} {M : am_M} {Q : Option Value → am_H → Prop} (h1 : vp_in (36 + x1) 136) : am_Wp d 249 0 [.ref 205, .int x1, .retAddr 0, .retAddr 0] [] (hp nS M) Q = am_Wp d 249 12 [.ref 205, .int x1, .int (M 206 (36 + x1).toNatClampNeg), .int 0] [] (hp nS M) Q := by
  refine (eq_run 5 (q := (8, [.ref 205, .int x1, .retAddr 0, .retAddr 0], [.int (36 + x1), .ref 206], hp nS M)) (by with_unfolding_all rfl)).trans ?_
  refine (eq_ald (e := (.iaload, 1, 0, 0, 0)) (by with_unfolding_all rfl) rfl (n := 136) (by with_unfolding_all rfl) h1).trans ?_
  exact eq_run 3 (q := (12, [.ref 205, .int x1, .int (M 206 (36 + x1).toNatClampNeg), .int 0], [], hp nS M)) (by with_unfolding_all rfl)
set_option maxRecDepth 20000 in
theorem b_249_12 {d nS : Nat} {x1 x2 x3 : Int32} {M : am_M} {Q : Option Value → am_H → Prop} : am_Wp d 249 12 [.ref 205, .int x1, .int x2, .int x3] [] (hp nS M) Q = if (M 205 9) ≤ x3 then am_Wp d 249 50 [.ref 205, .int x1, .int x2, .int x3] [] (hp nS M) Q else am_Wp d 249 20 [.ref 205, .int x1, .int x2, .int x3] [] (hp nS M) Q := by
  refine (eq_run 3 (q := (17, [.ref 205, .int x1, .int x2, .int x3], [.int (M 205 9), .int x3], hp nS M)) (by with_unfolding_all rfl)).trans ?_
  exact eq_cmp_ge (by with_unfolding_all rfl)
set_option maxRecDepth 20000 in
theorem b_249_20 {d nS : Nat} {x1 x2 x3 : Int32} {M : am_M} {Q : Option Value → am_H → Prop} : am_Wp (d + 1) 249 20 [.ref 205, .int x1, .int x2, .int x3] [] (hp nS M) Q = am_Wp d 173 0 [.ref 205, .int x1, .int x3] [] (hp nS M) (fun v h1 => am_Wp (d + 1) 249 31 [.ref 205, .int x1, .int x2, .int x3] (am_ans v [.ref 206, .int x2]) h1 Q) := by
  refine (eq_run 6 (q := (28, [.ref 205, .int x1, .int x2, .int x3], [.int x3, .int x1, .ref 205, .ref 206, .int x2], hp nS M)) (by with_unfolding_all rfl)).trans ?_
  exact eq_call2 (e := (.invokevirtual 148, 3, 0, 173, 276)) (as := [.ref 205, .int x1, .int x3]) (r := [.ref 206, .int x2]) (n := 3) (m := 3) (by with_unfolding_all rfl) rfl (by decide) (by with_unfolding_all rfl) (by decide) (by with_unfolding_all rfl) ⟨fun _ => am_rec_ok (c := 14) (by with_unfolding_all rfl) (by decide +kernel), fun z => by simp at z⟩
set_option maxRecDepth 20000 in
theorem b_249_31 {d nS : Nat} {x1 x2 x3 s0 s2 : Int32} {M : am_M} {Q : Option Value → am_H → Prop} (h1 : vp_in s2 136) (h2 : vp_in (28 + x3) 136) : am_Wp d 249 31 [.ref 205, .int x1, .int x2, .int x3] [.int s2, .ref 206, .int s0] (hp nS M) Q = am_Wp d 249 12 [.ref 205, .int x1, .int (s0 + ((M 206 s2.toNatClampNeg) * (M 206 (28 + x3).toNatClampNeg))), .int (x3 + 1)] [] (hp nS M) Q := by
  refine (eq_ald (e := (.iaload, 1, 0, 0, 0)) (by with_unfolding_all rfl) rfl (n := 136) (by with_unfolding_all rfl) h1).trans ?_
  refine (eq_run 5 (q := (40, [.ref 205, .int x1, .int x2, .int x3], [.int (28 + x3), .ref 206, .int (M 206 s2.toNatClampNeg), .int s0], hp nS M)) (by with_unfolding_all rfl)).trans ?_
  refine (eq_ald (e := (.iaload, 1, 0, 0, 0)) (by with_unfolding_all rfl) rfl (n := 136) (by with_unfolding_all rfl) h2).trans ?_
  exact eq_run 5 (q := (12, [.ref 205, .int x1, .int (s0 + ((M 206 s2.toNatClampNeg) * (M 206 (28 + x3).toNatClampNeg))), .int (x3 + 1)], [], hp nS M)) (by with_unfolding_all rfl)
set_option maxRecDepth 20000 in
theorem b_249_50 {d nS : Nat} {x1 x2 x3 : Int32} {M : am_M} {Q : Option Value → am_H → Prop} : am_Wp d 249 50 [.ref 205, .int x1, .int x2, .int x3] [] (hp nS M) Q = Q (some (.int x2)) (hp nS M) := by
  refine (eq_run 1 (q := (51, [.ref 205, .int x1, .int x2, .int x3], [.int x2], hp nS M)) (by with_unfolding_all rfl)).trans ?_
  exact eq_retI2 (e := (.ireturn, 1, 0, 0, 0)) (t := .int) (by with_unfolding_all rfl) rfl (by with_unfolding_all rfl) rfl
-- book(II)I
set_option maxRecDepth 20000 in
theorem b_250_0 {d nS : Nat} {x1 x2 : Int32} {M : am_M} {Q : Option Value → am_H → Prop} : am_Wp (d + 1) 250 0 [.ref 205, .int x1, .int x2] [] (hp nS M) Q = am_Wp d 171 0 [.ref 205, .int x1, .int 0, .int (((am_up M 205 0 0) 206 2) - 1)] [] (hp nS (am_up M 205 0 0)) (fun v h1 => am_Wp (d + 1) 250 19 [.ref 205, .int x1, .int x2] (am_ans v []) h1 Q) := by
  refine (eq_run 12 (q := (16, [.ref 205, .int x1, .int x2], [.int (((am_up M 205 0 0) 206 2) - 1), .int 0, .int x1, .ref 205], hp nS (am_up M 205 0 0))) (by with_unfolding_all rfl)).trans ?_
  exact eq_call2 (e := (.invokevirtual 144, 3, 0, 171, 275)) (as := [.ref 205, .int x1, .int 0, .int (((am_up M 205 0 0) 206 2) - 1)]) (r := []) (n := 4) (m := 4) (by with_unfolding_all rfl) rfl (by decide) (by with_unfolding_all rfl) (by decide) (by with_unfolding_all rfl) ⟨fun _ => am_rec_ok (c := 14) (by with_unfolding_all rfl) (by decide +kernel), fun z => by simp at z⟩
set_option maxRecDepth 20000 in
theorem b_250_19 {d nS : Nat} {x1 x2 s0 : Int32} {M : am_M} {Q : Option Value → am_H → Prop} : am_Wp d 250 19 [.ref 205, .int x1, .int x2] [.int s0] (hp nS M) Q = if s0 = 0 then am_Wp d 250 45 [.ref 205, .int x1, .int x2] [] (hp nS M) Q else am_Wp d 250 22 [.ref 205, .int x1, .int x2] [] (hp nS M) Q := by
  exact eq_if_eq (by with_unfolding_all rfl)
set_option maxRecDepth 20000 in
theorem b_250_22 {d nS : Nat} {x1 x2 : Int32} {M : am_M} {Q : Option Value → am_H → Prop} : am_Wp (d + 1) 250 22 [.ref 205, .int x1, .int x2] [] (hp nS M) Q = am_Wp d 171 0 [.ref 205, .int x2, .int 0, .int 3] [] (hp nS M) (fun v h1 => am_Wp (d + 1) 250 29 [.ref 205, .int x1, .int x2] (am_ans v []) h1 Q) := by
  refine (eq_run 4 (q := (26, [.ref 205, .int x1, .int x2], [.int 3, .int 0, .int x2, .ref 205], hp nS M)) (by with_unfolding_all rfl)).trans ?_
  exact eq_call2 (e := (.invokevirtual 144, 3, 0, 171, 275)) (as := [.ref 205, .int x2, .int 0, .int 3]) (r := []) (n := 4) (m := 4) (by with_unfolding_all rfl) rfl (by decide) (by with_unfolding_all rfl) (by decide) (by with_unfolding_all rfl) ⟨fun _ => am_rec_ok (c := 14) (by with_unfolding_all rfl) (by decide +kernel), fun z => by simp at z⟩
set_option maxRecDepth 20000 in
theorem b_250_29 {d nS : Nat} {x1 x2 s0 : Int32} {M : am_M} {Q : Option Value → am_H → Prop} : am_Wp d 250 29 [.ref 205, .int x1, .int x2] [.int s0] (hp nS M) Q = if s0 = 0 then am_Wp d 250 45 [.ref 205, .int x1, .int x2] [] (hp nS M) Q else am_Wp d 250 32 [.ref 205, .int x1, .int x2] [] (hp nS M) Q := by
  exact eq_if_eq (by with_unfolding_all rfl)
set_option maxRecDepth 20000 in
theorem b_250_32 {d nS : Nat} {x1 x2 : Int32} {M : am_M} {Q : Option Value → am_H → Prop} (h1 : vp_in ((4 * x1) + x2) 600) : am_Wp d 250 32 [.ref 205, .int x1, .int x2] [] (hp nS M) Q = am_Wp d 250 47 [.ref 205, .int x1, .int x2] [.int (M 211 ((4 * x1) + x2).toNatClampNeg)] (hp nS M) Q := by
  refine (eq_run 7 (q := (41, [.ref 205, .int x1, .int x2], [.int ((4 * x1) + x2), .ref 211], hp nS M)) (by with_unfolding_all rfl)).trans ?_
  refine (eq_ald (e := (.iaload, 1, 0, 0, 0)) (by with_unfolding_all rfl) rfl (n := 600) (by with_unfolding_all rfl) h1).trans ?_
  exact eq_run 1 (q := (47, [.ref 205, .int x1, .int x2], [.int (M 211 ((4 * x1) + x2).toNatClampNeg)], hp nS M)) (by with_unfolding_all rfl)
set_option maxRecDepth 20000 in
theorem b_250_45 {d nS : Nat} {x1 x2 : Int32} {M : am_M} {Q : Option Value → am_H → Prop} : am_Wp d 250 45 [.ref 205, .int x1, .int x2] [] (hp nS M) Q = am_Wp d 250 47 [.ref 205, .int x1, .int x2] [.int (-10)] (hp nS M) Q := by
  exact eq_run 1 (q := (47, [.ref 205, .int x1, .int x2], [.int (-10)], hp nS M)) (by with_unfolding_all rfl)
set_option maxRecDepth 20000 in
theorem b_250_47 {d nS : Nat} {x1 x2 s0 : Int32} {M : am_M} {Q : Option Value → am_H → Prop} : am_Wp d 250 47 [.ref 205, .int x1, .int x2] [.int s0] (hp nS M) Q = Q (some (.int s0)) (hp nS M) := by
  exact eq_retI2 (e := (.ireturn, 1, 0, 0, 0)) (t := .int) (by with_unfolding_all rfl) rfl (by with_unfolding_all rfl) rfl
-- goes(II)I
set_option maxRecDepth 20000 in
theorem b_251_0 {d nS : Nat} {x1 x2 : Int32} {M : am_M} {Q : Option Value → am_H → Prop} : am_Wp (d + 1) 251 0 [.ref 205, .int x1, .int x2, .retAddr 0] [] (hp nS M) Q = am_Wp d 171 0 [.ref 205, .int x1, .int 1, .int 60] [] (hp nS (am_up M 205 0 0)) (fun v h1 => am_Wp (d + 1) 251 13 [.ref 205, .int x1, .int x2, .retAddr 0] (am_ans v []) h1 Q) := by
  refine (eq_run 7 (q := (10, [.ref 205, .int x1, .int x2, .retAddr 0], [.int 60, .int 1, .int x1, .ref 205], hp nS (am_up M 205 0 0))) (by with_unfolding_all rfl)).trans ?_
  exact eq_call2 (e := (.invokevirtual 144, 3, 0, 171, 275)) (as := [.ref 205, .int x1, .int 1, .int 60]) (r := []) (n := 4) (m := 4) (by with_unfolding_all rfl) rfl (by decide) (by with_unfolding_all rfl) (by decide) (by with_unfolding_all rfl) ⟨fun _ => am_rec_ok (c := 14) (by with_unfolding_all rfl) (by decide +kernel), fun z => by simp at z⟩
set_option maxRecDepth 20000 in
theorem b_251_13 {d nS : Nat} {x1 x2 s0 : Int32} {M : am_M} {Q : Option Value → am_H → Prop} : am_Wp d 251 13 [.ref 205, .int x1, .int x2, .retAddr 0] [.int s0] (hp nS M) Q = if s0 = 0 then am_Wp d 251 26 [.ref 205, .int x1, .int x2, .retAddr 0] [] (hp nS M) Q else am_Wp d 251 16 [.ref 205, .int x1, .int x2, .retAddr 0] [] (hp nS M) Q := by
  exact eq_if_eq (by with_unfolding_all rfl)
set_option maxRecDepth 20000 in
theorem b_251_16 {d nS : Nat} {x1 x2 : Int32} {M : am_M} {Q : Option Value → am_H → Prop} : am_Wp (d + 1) 251 16 [.ref 205, .int x1, .int x2, .retAddr 0] [] (hp nS M) Q = am_Wp d 171 0 [.ref 205, .int x2, .int 0, .int 3] [] (hp nS M) (fun v h1 => am_Wp (d + 1) 251 23 [.ref 205, .int x1, .int x2, .retAddr 0] (am_ans v []) h1 Q) := by
  refine (eq_run 4 (q := (20, [.ref 205, .int x1, .int x2, .retAddr 0], [.int 3, .int 0, .int x2, .ref 205], hp nS M)) (by with_unfolding_all rfl)).trans ?_
  exact eq_call2 (e := (.invokevirtual 144, 3, 0, 171, 275)) (as := [.ref 205, .int x2, .int 0, .int 3]) (r := []) (n := 4) (m := 4) (by with_unfolding_all rfl) rfl (by decide) (by with_unfolding_all rfl) (by decide) (by with_unfolding_all rfl) ⟨fun _ => am_rec_ok (c := 14) (by with_unfolding_all rfl) (by decide +kernel), fun z => by simp at z⟩
set_option maxRecDepth 20000 in
theorem b_251_23 {d nS : Nat} {x1 x2 s0 : Int32} {M : am_M} {Q : Option Value → am_H → Prop} : am_Wp d 251 23 [.ref 205, .int x1, .int x2, .retAddr 0] [.int s0] (hp nS M) Q = if ¬ s0 = 0 then am_Wp d 251 29 [.ref 205, .int x1, .int x2, .retAddr 0] [] (hp nS M) Q else am_Wp d 251 26 [.ref 205, .int x1, .int x2, .retAddr 0] [] (hp nS M) Q := by
  exact eq_if_ne (by with_unfolding_all rfl)
set_option maxRecDepth 20000 in
theorem b_251_26 {d nS : Nat} {x1 x2 : Int32} {M : am_M} {Q : Option Value → am_H → Prop} : am_Wp d 251 26 [.ref 205, .int x1, .int x2, .retAddr 0] [] (hp nS M) Q = Q (some (.int (-100))) (hp nS M) := by
  refine (eq_run 1 (q := (28, [.ref 205, .int x1, .int x2, .retAddr 0], [.int (-100)], hp nS M)) (by with_unfolding_all rfl)).trans ?_
  exact eq_retI2 (e := (.ireturn, 1, 0, 0, 0)) (t := .int) (by with_unfolding_all rfl) rfl (by with_unfolding_all rfl) rfl
set_option maxRecDepth 20000 in
theorem b_251_29 {d nS : Nat} {x1 x2 : Int32} {M : am_M} {Q : Option Value → am_H → Prop} : am_Wp (d + 1) 251 29 [.ref 205, .int x1, .int x2, .retAddr 0] [] (hp nS M) Q = am_Wp d 252 0 [.ref 205, .retAddr 0] [] (hp nS M) (fun v h1 => am_Wp (d + 1) 251 33 [.ref 205, .int x1, .int x2, .retAddr 0] (am_ans v []) h1 Q) := by
  refine (eq_run 1 (q := (30, [.ref 205, .int x1, .int x2, .retAddr 0], [.ref 205], hp nS M)) (by with_unfolding_all rfl)).trans ?_
  exact eq_call2 (e := (.invokevirtual 401, 3, 0, 252, 342)) (as := [.ref 205]) (r := []) (n := 1) (m := 2) (by with_unfolding_all rfl) rfl (by decide) (by with_unfolding_all rfl) (by decide) (by with_unfolding_all rfl) ⟨fun _ => am_rec_ok (c := 14) (by with_unfolding_all rfl) (by decide +kernel), fun z => by simp at z⟩
set_option maxRecDepth 20000 in
theorem b_251_33 {d nS : Nat} {x1 x2 : Int32} {M : am_M} {Q : Option Value → am_H → Prop} : am_Wp d 251 33 [.ref 205, .int x1, .int x2, .retAddr 0] [] (hp nS M) Q = am_Wp d 251 35 [.ref 205, .int x1, .int x2, .int 0] [] (hp nS M) Q := by
  exact eq_run 2 (q := (35, [.ref 205, .int x1, .int x2, .int 0], [], hp nS M)) (by with_unfolding_all rfl)
set_option maxRecDepth 20000 in
theorem b_251_35 {d nS : Nat} {x1 x2 x3 : Int32} {M : am_M} {Q : Option Value → am_H → Prop} : am_Wp d 251 35 [.ref 205, .int x1, .int x2, .int x3] [] (hp nS M) Q = if x1 ≤ x3 then am_Wp d 251 51 [.ref 205, .int x1, .int x2, .int x3] [] (hp nS M) Q else am_Wp d 251 40 [.ref 205, .int x1, .int x2, .int x3] [] (hp nS M) Q := by
  refine (eq_run 2 (q := (37, [.ref 205, .int x1, .int x2, .int x3], [.int x1, .int x3], hp nS M)) (by with_unfolding_all rfl)).trans ?_
  exact eq_cmp_ge (by with_unfolding_all rfl)
set_option maxRecDepth 20000 in
theorem b_251_40 {d nS : Nat} {x1 x2 x3 : Int32} {M : am_M} {Q : Option Value → am_H → Prop} : am_Wp (d + 1) 251 40 [.ref 205, .int x1, .int x2, .int x3] [] (hp nS M) Q = am_Wp d 229 0 [.ref 205, .retAddr 0, .retAddr 0] [] (hp nS M) (fun v h1 => am_Wp (d + 1) 251 44 [.ref 205, .int x1, .int x2, .int x3] (am_ans v []) h1 Q) := by
  refine (eq_run 1 (q := (41, [.ref 205, .int x1, .int x2, .int x3], [.ref 205], hp nS M)) (by with_unfolding_all rfl)).trans ?_
  exact eq_call2 (e := (.invokevirtual 392, 3, 0, 229, 339)) (as := [.ref 205]) (r := []) (n := 1) (m := 3) (by with_unfolding_all rfl) rfl (by decide) (by with_unfolding_all rfl) (by decide) (by with_unfolding_all rfl) ⟨fun _ => am_rec_ok (c := 14) (by with_unfolding_all rfl) (by decide +kernel), fun z => by simp at z⟩
set_option maxRecDepth 20000 in
theorem b_251_44 {d nS : Nat} {x1 x2 x3 s0 : Int32} {M : am_M} {Q : Option Value → am_H → Prop} : am_Wp d 251 44 [.ref 205, .int x1, .int x2, .int x3] [.int s0] (hp nS M) Q = am_Wp d 251 35 [.ref 205, .int x1, .int x2, .int (x3 + 1)] [] (hp nS M) Q := by
  exact eq_run 3 (q := (35, [.ref 205, .int x1, .int x2, .int (x3 + 1)], [], hp nS M)) (by with_unfolding_all rfl)
set_option maxRecDepth 20000 in
theorem b_251_51 {d nS : Nat} {x1 x2 x3 : Int32} {M : am_M} {Q : Option Value → am_H → Prop} : am_Wp d 251 51 [.ref 205, .int x1, .int x2, .int x3] [] (hp nS M) Q = if ¬ x2 = 0 then am_Wp d 251 68 [.ref 205, .int x1, .int x2, .int x3] [] (hp nS M) Q else am_Wp d 251 55 [.ref 205, .int x1, .int x2, .int x3] [] (hp nS M) Q := by
  refine (eq_run 1 (q := (52, [.ref 205, .int x1, .int x2, .int x3], [.int x2], hp nS M)) (by with_unfolding_all rfl)).trans ?_
  exact eq_if_ne (by with_unfolding_all rfl)
set_option maxRecDepth 20000 in
theorem b_251_55 {d nS : Nat} {x1 x2 x3 : Int32} {M : am_M} {Q : Option Value → am_H → Prop} : am_Wp (d + 1) 251 55 [.ref 205, .int x1, .int x2, .int x3] [] (hp nS M) Q = am_Wp d 253 0 [.ref 205, .int 28, .int (M 205 9), .retAddr 0, .retAddr 0] [] (hp nS M) (fun v h1 => am_Wp (d + 1) 251 65 [.ref 205, .int x1, .int x2, .int x3] (am_ans v []) h1 Q) := by
  refine (eq_run 4 (q := (62, [.ref 205, .int x1, .int x2, .int x3], [.int (M 205 9), .int 28, .ref 205], hp nS M)) (by with_unfolding_all rfl)).trans ?_
  exact eq_call2 (e := (.invokevirtual 404, 3, 0, 253, 343)) (as := [.ref 205, .int 28, .int (M 205 9)]) (r := []) (n := 3) (m := 5) (by with_unfolding_all rfl) rfl (by decide) (by with_unfolding_all rfl) (by decide) (by with_unfolding_all rfl) ⟨fun _ => am_rec_ok (c := 14) (by with_unfolding_all rfl) (by decide +kernel), fun z => by simp at z⟩
set_option maxRecDepth 20000 in
theorem b_251_65 {d nS : Nat} {x1 x2 x3 s0 : Int32} {M : am_M} {Q : Option Value → am_H → Prop} : am_Wp d 251 65 [.ref 205, .int x1, .int x2, .int x3] [.int s0] (hp nS M) Q = am_Wp d 251 114 [.ref 205, .int x1, .int x2, .int x3] [.int s0] (hp nS M) Q := by
  exact eq_run 1 (q := (114, [.ref 205, .int x1, .int x2, .int x3], [.int s0], hp nS M)) (by with_unfolding_all rfl)
set_option maxRecDepth 20000 in
theorem b_251_68 {d nS : Nat} {x1 x2 x3 : Int32} {M : am_M} {Q : Option Value → am_H → Prop} : am_Wp d 251 68 [.ref 205, .int x1, .int x2, .int x3] [] (hp nS M) Q = if ¬ x2 = 1 then am_Wp d 251 86 [.ref 205, .int x1, .int x2, .int x3] [] (hp nS M) Q else am_Wp d 251 73 [.ref 205, .int x1, .int x2, .int x3] [] (hp nS M) Q := by
  refine (eq_run 2 (q := (70, [.ref 205, .int x1, .int x2, .int x3], [.int 1, .int x2], hp nS M)) (by with_unfolding_all rfl)).trans ?_
  exact eq_cmp_ne (by with_unfolding_all rfl)
set_option maxRecDepth 20000 in
theorem b_251_73 {d nS : Nat} {x1 x2 x3 : Int32} {M : am_M} {Q : Option Value → am_H → Prop} : am_Wp (d + 1) 251 73 [.ref 205, .int x1, .int x2, .int x3] [] (hp nS M) Q = am_Wp d 253 0 [.ref 205, .int 36, .int (M 205 10), .retAddr 0, .retAddr 0] [] (hp nS M) (fun v h1 => am_Wp (d + 1) 251 83 [.ref 205, .int x1, .int x2, .int x3] (am_ans v []) h1 Q) := by
  refine (eq_run 4 (q := (80, [.ref 205, .int x1, .int x2, .int x3], [.int (M 205 10), .int 36, .ref 205], hp nS M)) (by with_unfolding_all rfl)).trans ?_
  exact eq_call2 (e := (.invokevirtual 404, 3, 0, 253, 343)) (as := [.ref 205, .int 36, .int (M 205 10)]) (r := []) (n := 3) (m := 5) (by with_unfolding_all rfl) rfl (by decide) (by with_unfolding_all rfl) (by decide) (by with_unfolding_all rfl) ⟨fun _ => am_rec_ok (c := 14) (by with_unfolding_all rfl) (by decide +kernel), fun z => by simp at z⟩
set_option maxRecDepth 20000 in
theorem b_251_83 {d nS : Nat} {x1 x2 x3 s0 : Int32} {M : am_M} {Q : Option Value → am_H → Prop} : am_Wp d 251 83 [.ref 205, .int x1, .int x2, .int x3] [.int s0] (hp nS M) Q = am_Wp d 251 114 [.ref 205, .int x1, .int x2, .int x3] [.int s0] (hp nS M) Q := by
  exact eq_run 1 (q := (114, [.ref 205, .int x1, .int x2, .int x3], [.int s0], hp nS M)) (by with_unfolding_all rfl)
set_option maxRecDepth 20000 in
theorem b_251_86 {d nS : Nat} {x1 x2 x3 : Int32} {M : am_M} {Q : Option Value → am_H → Prop} : am_Wp d 251 86 [.ref 205, .int x1, .int x2, .int x3] [] (hp nS M) Q = if ¬ x2 = 2 then am_Wp d 251 104 [.ref 205, .int x1, .int x2, .int x3] [] (hp nS M) Q else am_Wp d 251 91 [.ref 205, .int x1, .int x2, .int x3] [] (hp nS M) Q := by
  refine (eq_run 2 (q := (88, [.ref 205, .int x1, .int x2, .int x3], [.int 2, .int x2], hp nS M)) (by with_unfolding_all rfl)).trans ?_
  exact eq_cmp_ne (by with_unfolding_all rfl)
set_option maxRecDepth 20000 in
theorem b_251_91 {d nS : Nat} {x1 x2 x3 : Int32} {M : am_M} {Q : Option Value → am_H → Prop} : am_Wp (d + 1) 251 91 [.ref 205, .int x1, .int x2, .int x3] [] (hp nS M) Q = am_Wp d 253 0 [.ref 205, .int 16, .int (M 205 8), .retAddr 0, .retAddr 0] [] (hp nS M) (fun v h1 => am_Wp (d + 1) 251 101 [.ref 205, .int x1, .int x2, .int x3] (am_ans v []) h1 Q) := by
  refine (eq_run 4 (q := (98, [.ref 205, .int x1, .int x2, .int x3], [.int (M 205 8), .int 16, .ref 205], hp nS M)) (by with_unfolding_all rfl)).trans ?_
  exact eq_call2 (e := (.invokevirtual 404, 3, 0, 253, 343)) (as := [.ref 205, .int 16, .int (M 205 8)]) (r := []) (n := 3) (m := 5) (by with_unfolding_all rfl) rfl (by decide) (by with_unfolding_all rfl) (by decide) (by with_unfolding_all rfl) ⟨fun _ => am_rec_ok (c := 14) (by with_unfolding_all rfl) (by decide +kernel), fun z => by simp at z⟩
set_option maxRecDepth 20000 in
theorem b_251_101 {d nS : Nat} {x1 x2 x3 s0 : Int32} {M : am_M} {Q : Option Value → am_H → Prop} : am_Wp d 251 101 [.ref 205, .int x1, .int x2, .int x3] [.int s0] (hp nS M) Q = am_Wp d 251 114 [.ref 205, .int x1, .int x2, .int x3] [.int s0] (hp nS M) Q := by
  exact eq_run 1 (q := (114, [.ref 205, .int x1, .int x2, .int x3], [.int s0], hp nS M)) (by with_unfolding_all rfl)
set_option maxRecDepth 20000 in
theorem b_251_104 {d nS : Nat} {x1 x2 x3 : Int32} {M : am_M} {Q : Option Value → am_H → Prop} : am_Wp (d + 1) 251 104 [.ref 205, .int x1, .int x2, .int x3] [] (hp nS M) Q = am_Wp d 253 0 [.ref 205, .int 46, .int (M 205 10), .retAddr 0, .retAddr 0] [] (hp nS M) (fun v h1 => am_Wp (d + 1) 251 114 [.ref 205, .int x1, .int x2, .int x3] (am_ans v []) h1 Q) := by
  refine (eq_run 4 (q := (111, [.ref 205, .int x1, .int x2, .int x3], [.int (M 205 10), .int 46, .ref 205], hp nS M)) (by with_unfolding_all rfl)).trans ?_
  exact eq_call2 (e := (.invokevirtual 404, 3, 0, 253, 343)) (as := [.ref 205, .int 46, .int (M 205 10)]) (r := []) (n := 3) (m := 5) (by with_unfolding_all rfl) rfl (by decide) (by with_unfolding_all rfl) (by decide) (by with_unfolding_all rfl) ⟨fun _ => am_rec_ok (c := 14) (by with_unfolding_all rfl) (by decide +kernel), fun z => by simp at z⟩
set_option maxRecDepth 20000 in
theorem b_251_114 {d nS : Nat} {x1 x2 x3 s0 : Int32} {M : am_M} {Q : Option Value → am_H → Prop} : am_Wp (d + 1) 251 114 [.ref 205, .int x1, .int x2, .int x3] [.int s0] (hp nS M) Q = am_Wp d 254 0 [.ref 205, .retAddr 0] [] (hp nS M) (fun v h1 => am_Wp (d + 1) 251 119 [.ref 205, .int x1, .int x2, .int s0] (am_ans v []) h1 Q) := by
  refine (eq_run 2 (q := (116, [.ref 205, .int x1, .int x2, .int s0], [.ref 205], hp nS M)) (by with_unfolding_all rfl)).trans ?_
  exact eq_call2 (e := (.invokevirtual 407, 3, 0, 254, 344)) (as := [.ref 205]) (r := []) (n := 1) (m := 2) (by with_unfolding_all rfl) rfl (by decide) (by with_unfolding_all rfl) (by decide) (by with_unfolding_all rfl) ⟨fun _ => am_rec_ok (c := 14) (by with_unfolding_all rfl) (by decide +kernel), fun z => by simp at z⟩
set_option maxRecDepth 20000 in
theorem b_251_119 {d nS : Nat} {x1 x2 x3 : Int32} {M : am_M} {Q : Option Value → am_H → Prop} : am_Wp d 251 119 [.ref 205, .int x1, .int x2, .int x3] [] (hp nS M) Q = Q (some (.int x3)) (hp nS M) := by
  refine (eq_run 1 (q := (120, [.ref 205, .int x1, .int x2, .int x3], [.int x3], hp nS M)) (by with_unfolding_all rfl)).trans ?_
  exact eq_retI2 (e := (.ireturn, 1, 0, 0, 0)) (t := .int) (by with_unfolding_all rfl) rfl (by with_unfolding_all rfl) rfl
-- thinks()V
set_option maxRecDepth 20000 in
theorem b_252_0 {d nS : Nat} {M : am_M} {Q : Option Value → am_H → Prop} : am_Wp d 252 0 [.ref 205, .retAddr 0] [] (hp nS M) Q = am_Wp d 252 2 [.ref 205, .int 0] [] (hp nS M) Q := by
  exact eq_run 2 (q := (2, [.ref 205, .int 0], [], hp nS M)) (by with_unfolding_all rfl)
set_option maxRecDepth 20000 in
theorem b_252_2 {d nS : Nat} {x1 : Int32} {M : am_M} {Q : Option Value → am_H → Prop} : am_Wp d 252 2 [.ref 205, .int x1] [] (hp nS M) Q = if 136 ≤ x1 then am_Wp d 252 27 [.ref 205, .int x1] [] (hp nS M) Q else am_Wp d 252 9 [.ref 205, .int x1] [] (hp nS M) Q := by
  refine (eq_run 2 (q := (6, [.ref 205, .int x1], [.int 136, .int x1], hp nS M)) (by with_unfolding_all rfl)).trans ?_
  exact eq_cmp_ge (by with_unfolding_all rfl)
set_option maxRecDepth 20000 in
theorem b_252_9 {d nS : Nat} {x1 : Int32} {M : am_M} {Q : Option Value → am_H → Prop} (h1 : vp_in x1 136) (h2 : vp_in x1 136) : am_Wp d 252 9 [.ref 205, .int x1] [] (hp nS M) Q = am_Wp d 252 2 [.ref 205, .int (x1 + 1)] [] (hp nS (am_up M 208 x1.toNatClampNeg (M 206 x1.toNatClampNeg))) Q := by
  refine (eq_run 6 (q := (19, [.ref 205, .int x1], [.int x1, .ref 206, .int x1, .ref 208], hp nS M)) (by with_unfolding_all rfl)).trans ?_
  refine (eq_ald (e := (.iaload, 1, 0, 0, 0)) (by with_unfolding_all rfl) rfl (n := 136) (by with_unfolding_all rfl) h1).trans ?_
  refine (eq_ast (e := (.iastore, 1, 0, 0, 0)) (by with_unfolding_all rfl) rfl (n := 136) (by with_unfolding_all rfl) (by decide) h2).trans ?_
  exact eq_run 2 (q := (2, [.ref 205, .int (x1 + 1)], [], hp nS (am_up M 208 x1.toNatClampNeg (M 206 x1.toNatClampNeg)))) (by with_unfolding_all rfl)
set_option maxRecDepth 20000 in
theorem b_252_27 {d nS : Nat} {x1 : Int32} {M : am_M} {Q : Option Value → am_H → Prop} : am_Wp d 252 27 [.ref 205, .int x1] [] (hp nS M) Q = Q none (hp nS (am_up M 205 7 1)) := by
  refine (eq_run 3 (q := (32, [.ref 205, .int x1], [], hp nS (am_up M 205 7 1))) (by with_unfolding_all rfl)).trans ?_
  exact eq_retV2 (e := (.return_, 1, 0, 0, 0)) (by with_unfolding_all rfl) rfl (by with_unfolding_all rfl)
-- sumOf(II)I
set_option maxRecDepth 20000 in
theorem b_253_0 {d nS : Nat} {x1 x2 : Int32} {M : am_M} {Q : Option Value → am_H → Prop} : am_Wp d 253 0 [.ref 205, .int x1, .int x2, .retAddr 0, .retAddr 0] [] (hp nS M) Q = am_Wp d 253 5 [.ref 205, .int x1, .int x2, .int 0, .int 0] [] (hp nS M) Q := by
  exact eq_run 4 (q := (5, [.ref 205, .int x1, .int x2, .int 0, .int 0], [], hp nS M)) (by with_unfolding_all rfl)
set_option maxRecDepth 20000 in
theorem b_253_5 {d nS : Nat} {x1 x2 x3 x4 : Int32} {M : am_M} {Q : Option Value → am_H → Prop} : am_Wp d 253 5 [.ref 205, .int x1, .int x2, .int x3, .int x4] [] (hp nS M) Q = if x2 ≤ x4 then am_Wp d 253 29 [.ref 205, .int x1, .int x2, .int x3, .int x4] [] (hp nS M) Q else am_Wp d 253 11 [.ref 205, .int x1, .int x2, .int x3, .int x4] [] (hp nS M) Q := by
  refine (eq_run 2 (q := (8, [.ref 205, .int x1, .int x2, .int x3, .int x4], [.int x2, .int x4], hp nS M)) (by with_unfolding_all rfl)).trans ?_
  exact eq_cmp_ge (by with_unfolding_all rfl)
set_option maxRecDepth 20000 in
theorem b_253_11 {d nS : Nat} {x1 x2 x3 x4 : Int32} {M : am_M} {Q : Option Value → am_H → Prop} (h1 : vp_in (x1 + x4) 136) : am_Wp d 253 11 [.ref 205, .int x1, .int x2, .int x3, .int x4] [] (hp nS M) Q = am_Wp d 253 5 [.ref 205, .int x1, .int x2, .int (x3 + (M 206 (x1 + x4).toNatClampNeg)), .int (x4 + 1)] [] (hp nS M) Q := by
  refine (eq_run 6 (q := (20, [.ref 205, .int x1, .int x2, .int x3, .int x4], [.int (x1 + x4), .ref 206, .int x3], hp nS M)) (by with_unfolding_all rfl)).trans ?_
  refine (eq_ald (e := (.iaload, 1, 0, 0, 0)) (by with_unfolding_all rfl) rfl (n := 136) (by with_unfolding_all rfl) h1).trans ?_
  exact eq_run 4 (q := (5, [.ref 205, .int x1, .int x2, .int (x3 + (M 206 (x1 + x4).toNatClampNeg)), .int (x4 + 1)], [], hp nS M)) (by with_unfolding_all rfl)
set_option maxRecDepth 20000 in
theorem b_253_29 {d nS : Nat} {x1 x2 x3 x4 : Int32} {M : am_M} {Q : Option Value → am_H → Prop} : am_Wp d 253 29 [.ref 205, .int x1, .int x2, .int x3, .int x4] [] (hp nS M) Q = Q (some (.int x3)) (hp nS M) := by
  refine (eq_run 1 (q := (30, [.ref 205, .int x1, .int x2, .int x3, .int x4], [.int x3], hp nS M)) (by with_unfolding_all rfl)).trans ?_
  exact eq_retI2 (e := (.ireturn, 1, 0, 0, 0)) (t := .int) (by with_unfolding_all rfl) rfl (by with_unfolding_all rfl) rfl
-- endsThought()V
set_option maxRecDepth 20000 in
theorem b_254_0 {d nS : Nat} {M : am_M} {Q : Option Value → am_H → Prop} : am_Wp d 254 0 [.ref 205, .retAddr 0] [] (hp nS M) Q = am_Wp d 254 2 [.ref 205, .int 0] [] (hp nS M) Q := by
  exact eq_run 2 (q := (2, [.ref 205, .int 0], [], hp nS M)) (by with_unfolding_all rfl)
set_option maxRecDepth 20000 in
theorem b_254_2 {d nS : Nat} {x1 : Int32} {M : am_M} {Q : Option Value → am_H → Prop} : am_Wp d 254 2 [.ref 205, .int x1] [] (hp nS M) Q = if 136 ≤ x1 then am_Wp d 254 27 [.ref 205, .int x1] [] (hp nS M) Q else am_Wp d 254 9 [.ref 205, .int x1] [] (hp nS M) Q := by
  refine (eq_run 2 (q := (6, [.ref 205, .int x1], [.int 136, .int x1], hp nS M)) (by with_unfolding_all rfl)).trans ?_
  exact eq_cmp_ge (by with_unfolding_all rfl)
set_option maxRecDepth 20000 in
theorem b_254_9 {d nS : Nat} {x1 : Int32} {M : am_M} {Q : Option Value → am_H → Prop} (h1 : vp_in x1 136) (h2 : vp_in x1 136) : am_Wp d 254 9 [.ref 205, .int x1] [] (hp nS M) Q = am_Wp d 254 2 [.ref 205, .int (x1 + 1)] [] (hp nS (am_up M 206 x1.toNatClampNeg (M 208 x1.toNatClampNeg))) Q := by
  refine (eq_run 6 (q := (19, [.ref 205, .int x1], [.int x1, .ref 208, .int x1, .ref 206], hp nS M)) (by with_unfolding_all rfl)).trans ?_
  refine (eq_ald (e := (.iaload, 1, 0, 0, 0)) (by with_unfolding_all rfl) rfl (n := 136) (by with_unfolding_all rfl) h1).trans ?_
  refine (eq_ast (e := (.iastore, 1, 0, 0, 0)) (by with_unfolding_all rfl) rfl (n := 136) (by with_unfolding_all rfl) (by decide) h2).trans ?_
  exact eq_run 2 (q := (2, [.ref 205, .int (x1 + 1)], [], hp nS (am_up M 206 x1.toNatClampNeg (M 208 x1.toNatClampNeg)))) (by with_unfolding_all rfl)
set_option maxRecDepth 20000 in
theorem b_254_27 {d nS : Nat} {x1 : Int32} {M : am_M} {Q : Option Value → am_H → Prop} : am_Wp d 254 27 [.ref 205, .int x1] [] (hp nS M) Q = Q none (hp nS (am_up M 205 7 0)) := by
  refine (eq_run 3 (q := (32, [.ref 205, .int x1], [], hp nS (am_up M 205 7 0))) (by with_unfolding_all rfl)).trans ?_
  exact eq_retV2 (e := (.return_, 1, 0, 0, 0)) (by with_unfolding_all rfl) rfl (by with_unfolding_all rfl)
-- ruin(I)I
set_option maxRecDepth 20000 in
theorem b_255_0 {d nS : Nat} {x1 : Int32} {M : am_M} {Q : Option Value → am_H → Prop} : am_Wp (d + 1) 255 0 [.ref 205, .int x1, .retAddr 0] [] (hp nS M) Q = am_Wp d 179 0 [.ref 205, .int x1] [] (hp nS (am_up M 205 0 0)) (fun v h1 => am_Wp (d + 1) 255 10 [.ref 205, .int x1, .retAddr 0] (am_ans v []) h1 Q) := by
  refine (eq_run 5 (q := (7, [.ref 205, .int x1, .retAddr 0], [.int x1, .ref 205], hp nS (am_up M 205 0 0))) (by with_unfolding_all rfl)).trans ?_
  exact eq_call2 (e := (.invokevirtual 158, 3, 0, 179, 279)) (as := [.ref 205, .int x1]) (r := []) (n := 2) (m := 2) (by with_unfolding_all rfl) rfl (by decide) (by with_unfolding_all rfl) (by decide) (by with_unfolding_all rfl) ⟨fun _ => am_rec_ok (c := 14) (by with_unfolding_all rfl) (by decide +kernel), fun z => by simp at z⟩
set_option maxRecDepth 20000 in
theorem b_255_10 {d nS : Nat} {x1 s0 : Int32} {M : am_M} {Q : Option Value → am_H → Prop} : am_Wp d 255 10 [.ref 205, .int x1, .retAddr 0] [.int s0] (hp nS M) Q = if ¬ s0 = 0 then am_Wp d 255 15 [.ref 205, .int x1, .retAddr 0] [] (hp nS M) Q else am_Wp d 255 13 [.ref 205, .int x1, .retAddr 0] [] (hp nS M) Q := by
  exact eq_if_ne (by with_unfolding_all rfl)
set_option maxRecDepth 20000 in
theorem b_255_13 {d nS : Nat} {x1 : Int32} {M : am_M} {Q : Option Value → am_H → Prop} : am_Wp d 255 13 [.ref 205, .int x1, .retAddr 0] [] (hp nS M) Q = Q (some (.int (-1))) (hp nS M) := by
  refine (eq_run 1 (q := (14, [.ref 205, .int x1, .retAddr 0], [.int (-1)], hp nS M)) (by with_unfolding_all rfl)).trans ?_
  exact eq_retI2 (e := (.ireturn, 1, 0, 0, 0)) (t := .int) (by with_unfolding_all rfl) rfl (by with_unfolding_all rfl) rfl
set_option maxRecDepth 20000 in
theorem b_255_15 {d nS : Nat} {x1 : Int32} {M : am_M} {Q : Option Value → am_H → Prop} : am_Wp (d + 1) 255 15 [.ref 205, .int x1, .retAddr 0] [] (hp nS M) Q = am_Wp d 252 0 [.ref 205, .retAddr 0] [] (hp nS M) (fun v h1 => am_Wp (d + 1) 255 19 [.ref 205, .int x1, .retAddr 0] (am_ans v []) h1 Q) := by
  refine (eq_run 1 (q := (16, [.ref 205, .int x1, .retAddr 0], [.ref 205], hp nS M)) (by with_unfolding_all rfl)).trans ?_
  exact eq_call2 (e := (.invokevirtual 401, 3, 0, 252, 342)) (as := [.ref 205]) (r := []) (n := 1) (m := 2) (by with_unfolding_all rfl) rfl (by decide) (by with_unfolding_all rfl) (by decide) (by with_unfolding_all rfl) ⟨fun _ => am_rec_ok (c := 14) (by with_unfolding_all rfl) (by decide +kernel), fun z => by simp at z⟩
set_option maxRecDepth 20000 in
theorem b_255_19 {d nS : Nat} {x1 : Int32} {M : am_M} {Q : Option Value → am_H → Prop} : am_Wp d 255 19 [.ref 205, .int x1, .retAddr 0] [] (hp nS M) Q = am_Wp d 255 21 [.ref 205, .int x1, .int 0] [] (hp nS M) Q := by
  exact eq_run 2 (q := (21, [.ref 205, .int x1, .int 0], [], hp nS M)) (by with_unfolding_all rfl)
set_option maxRecDepth 20000 in
theorem b_255_21 {d nS : Nat} {x1 x2 : Int32} {M : am_M} {Q : Option Value → am_H → Prop} : am_Wp d 255 21 [.ref 205, .int x1, .int x2] [] (hp nS M) Q = if 60 < x2 then am_Wp d 255 47 [.ref 205, .int x1, .int x2] [] (hp nS M) Q else am_Wp d 255 27 [.ref 205, .int x1, .int x2] [] (hp nS M) Q := by
  refine (eq_run 2 (q := (24, [.ref 205, .int x1, .int x2], [.int 60, .int x2], hp nS M)) (by with_unfolding_all rfl)).trans ?_
  exact eq_cmp_gt (by with_unfolding_all rfl)
set_option maxRecDepth 20000 in
theorem b_255_27 {d nS : Nat} {x1 x2 : Int32} {M : am_M} {Q : Option Value → am_H → Prop} : am_Wp (d + 1) 255 27 [.ref 205, .int x1, .int x2] [] (hp nS M) Q = am_Wp d 221 0 [.ref 205, .int x1] [] (hp nS M) (fun v h1 => am_Wp (d + 1) 255 32 [.ref 205, .int x1, .int x2] (am_ans v []) h1 Q) := by
  refine (eq_run 2 (q := (29, [.ref 205, .int x1, .int x2], [.int x1, .ref 205], hp nS M)) (by with_unfolding_all rfl)).trans ?_
  exact eq_call2 (e := (.invokevirtual 343, 3, 0, 221, 323)) (as := [.ref 205, .int x1]) (r := []) (n := 2) (m := 2) (by with_unfolding_all rfl) rfl (by decide) (by with_unfolding_all rfl) (by decide) (by with_unfolding_all rfl) ⟨fun _ => am_rec_ok (c := 14) (by with_unfolding_all rfl) (by decide +kernel), fun z => by simp at z⟩
set_option maxRecDepth 20000 in
theorem b_255_32 {d nS : Nat} {x1 x2 s0 : Int32} {M : am_M} {Q : Option Value → am_H → Prop} : am_Wp d 255 32 [.ref 205, .int x1, .int x2] [.int s0] (hp nS M) Q = if ¬ s0 = 0 then am_Wp d 255 47 [.ref 205, .int x1, .int x2] [] (hp nS M) Q else am_Wp d 255 35 [.ref 205, .int x1, .int x2] [] (hp nS M) Q := by
  exact eq_if_ne (by with_unfolding_all rfl)
set_option maxRecDepth 20000 in
theorem b_255_35 {d nS : Nat} {x1 x2 : Int32} {M : am_M} {Q : Option Value → am_H → Prop} : am_Wp (d + 1) 255 35 [.ref 205, .int x1, .int x2] [] (hp nS M) Q = am_Wp d 229 0 [.ref 205, .retAddr 0, .retAddr 0] [] (hp nS M) (fun v h1 => am_Wp (d + 1) 255 39 [.ref 205, .int x1, .int x2] (am_ans v []) h1 Q) := by
  refine (eq_run 1 (q := (36, [.ref 205, .int x1, .int x2], [.ref 205], hp nS M)) (by with_unfolding_all rfl)).trans ?_
  exact eq_call2 (e := (.invokevirtual 392, 3, 0, 229, 339)) (as := [.ref 205]) (r := []) (n := 1) (m := 3) (by with_unfolding_all rfl) rfl (by decide) (by with_unfolding_all rfl) (by decide) (by with_unfolding_all rfl) ⟨fun _ => am_rec_ok (c := 14) (by with_unfolding_all rfl) (by decide +kernel), fun z => by simp at z⟩
set_option maxRecDepth 20000 in
theorem b_255_39 {d nS : Nat} {x1 x2 s0 : Int32} {M : am_M} {Q : Option Value → am_H → Prop} : am_Wp d 255 39 [.ref 205, .int x1, .int x2] [.int s0] (hp nS M) Q = am_Wp d 255 21 [.ref 205, .int x1, .int (x2 + 1)] [] (hp nS M) Q := by
  exact eq_run 6 (q := (21, [.ref 205, .int x1, .int (x2 + 1)], [], hp nS M)) (by with_unfolding_all rfl)
set_option maxRecDepth 20000 in
theorem b_255_47 {d nS : Nat} {x1 x2 : Int32} {M : am_M} {Q : Option Value → am_H → Prop} : am_Wp (d + 1) 255 47 [.ref 205, .int x1, .int x2] [] (hp nS M) Q = am_Wp d 254 0 [.ref 205, .retAddr 0] [] (hp nS M) (fun v h1 => am_Wp (d + 1) 255 51 [.ref 205, .int x1, .int x2] (am_ans v []) h1 Q) := by
  refine (eq_run 1 (q := (48, [.ref 205, .int x1, .int x2], [.ref 205], hp nS M)) (by with_unfolding_all rfl)).trans ?_
  exact eq_call2 (e := (.invokevirtual 407, 3, 0, 254, 344)) (as := [.ref 205]) (r := []) (n := 1) (m := 2) (by with_unfolding_all rfl) rfl (by decide) (by with_unfolding_all rfl) (by decide) (by with_unfolding_all rfl) ⟨fun _ => am_rec_ok (c := 14) (by with_unfolding_all rfl) (by decide +kernel), fun z => by simp at z⟩
set_option maxRecDepth 20000 in
theorem b_255_51 {d nS : Nat} {x1 x2 : Int32} {M : am_M} {Q : Option Value → am_H → Prop} : am_Wp d 255 51 [.ref 205, .int x1, .int x2] [] (hp nS M) Q = if x2 ≤ 60 then am_Wp d 255 61 [.ref 205, .int x1, .int x2] [] (hp nS M) Q else am_Wp d 255 57 [.ref 205, .int x1, .int x2] [] (hp nS M) Q := by
  refine (eq_run 2 (q := (54, [.ref 205, .int x1, .int x2], [.int 60, .int x2], hp nS M)) (by with_unfolding_all rfl)).trans ?_
  exact eq_cmp_le (by with_unfolding_all rfl)
set_option maxRecDepth 20000 in
theorem b_255_57 {d nS : Nat} {x1 x2 : Int32} {M : am_M} {Q : Option Value → am_H → Prop} : am_Wp d 255 57 [.ref 205, .int x1, .int x2] [] (hp nS M) Q = am_Wp d 255 62 [.ref 205, .int x1, .int x2] [.int (-1)] (hp nS M) Q := by
  exact eq_run 2 (q := (62, [.ref 205, .int x1, .int x2], [.int (-1)], hp nS M)) (by with_unfolding_all rfl)
set_option maxRecDepth 20000 in
theorem b_255_61 {d nS : Nat} {x1 x2 : Int32} {M : am_M} {Q : Option Value → am_H → Prop} : am_Wp d 255 61 [.ref 205, .int x1, .int x2] [] (hp nS M) Q = am_Wp d 255 62 [.ref 205, .int x1, .int x2] [.int x2] (hp nS M) Q := by
  exact eq_run 1 (q := (62, [.ref 205, .int x1, .int x2], [.int x2], hp nS M)) (by with_unfolding_all rfl)
set_option maxRecDepth 20000 in
theorem b_255_62 {d nS : Nat} {x1 x2 s0 : Int32} {M : am_M} {Q : Option Value → am_H → Prop} : am_Wp d 255 62 [.ref 205, .int x1, .int x2] [.int s0] (hp nS M) Q = Q (some (.int s0)) (hp nS M) := by
  exact eq_retI2 (e := (.ireturn, 1, 0, 0, 0)) (t := .int) (by with_unfolding_all rfl) rfl (by with_unfolding_all rfl) rfl
-- price(I)I
set_option maxRecDepth 20000 in
theorem b_256_0 {d nS : Nat} {x1 : Int32} {M : am_M} {Q : Option Value → am_H → Prop} : am_Wp d 256 0 [.ref 205, .int x1] [] (hp nS M) Q = if ¬ x1 = (-1) then am_Wp d 256 17 [.ref 205, .int x1] [] (hp nS (am_up M 205 0 0)) Q else am_Wp d 256 10 [.ref 205, .int x1] [] (hp nS (am_up M 205 0 0)) Q := by
  refine (eq_run 5 (q := (7, [.ref 205, .int x1], [.int (-1), .int x1], hp nS (am_up M 205 0 0))) (by with_unfolding_all rfl)).trans ?_
  exact eq_cmp_ne (by with_unfolding_all rfl)
set_option maxRecDepth 20000 in
theorem b_256_10 {d nS : Nat} {x1 : Int32} {M : am_M} {Q : Option Value → am_H → Prop} : am_Wp d 256 10 [.ref 205, .int x1] [] (hp nS M) Q = Q (some (.int 0)) (hp nS (am_up M 205 45 0)) := by
  refine (eq_run 4 (q := (16, [.ref 205, .int x1], [.int 0], hp nS (am_up M 205 45 0))) (by with_unfolding_all rfl)).trans ?_
  exact eq_retI2 (e := (.ireturn, 1, 0, 0, 0)) (t := .int) (by with_unfolding_all rfl) rfl (by with_unfolding_all rfl) rfl
set_option maxRecDepth 20000 in
theorem b_256_17 {d nS : Nat} {x1 : Int32} {M : am_M} {Q : Option Value → am_H → Prop} : am_Wp (d + 1) 256 17 [.ref 205, .int x1] [] (hp nS M) Q = am_Wp d 171 0 [.ref 205, .int x1, .int 1, .int 99] [] (hp nS M) (fun v h1 => am_Wp (d + 1) 256 25 [.ref 205, .int x1] (am_ans v []) h1 Q) := by
  refine (eq_run 4 (q := (22, [.ref 205, .int x1], [.int 99, .int 1, .int x1, .ref 205], hp nS M)) (by with_unfolding_all rfl)).trans ?_
  exact eq_call2 (e := (.invokevirtual 144, 3, 0, 171, 275)) (as := [.ref 205, .int x1, .int 1, .int 99]) (r := []) (n := 4) (m := 4) (by with_unfolding_all rfl) rfl (by decide) (by with_unfolding_all rfl) (by decide) (by with_unfolding_all rfl) ⟨fun _ => am_rec_ok (c := 14) (by with_unfolding_all rfl) (by decide +kernel), fun z => by simp at z⟩
set_option maxRecDepth 20000 in
theorem b_256_25 {d nS : Nat} {x1 s0 : Int32} {M : am_M} {Q : Option Value → am_H → Prop} : am_Wp d 256 25 [.ref 205, .int x1] [.int s0] (hp nS M) Q = if s0 = 0 then am_Wp d 256 37 [.ref 205, .int x1] [] (hp nS M) Q else am_Wp d 256 28 [.ref 205, .int x1] [] (hp nS M) Q := by
  exact eq_if_eq (by with_unfolding_all rfl)
set_option maxRecDepth 20000 in
theorem b_256_28 {d nS : Nat} {x1 : Int32} {M : am_M} {Q : Option Value → am_H → Prop} : am_Wp d 256 28 [.ref 205, .int x1] [] (hp nS M) Q = if ¬ (M 205 45) = 14 then am_Wp d 256 39 [.ref 205, .int x1] [] (hp nS M) Q else am_Wp d 256 37 [.ref 205, .int x1] [] (hp nS M) Q := by
  refine (eq_run 3 (q := (34, [.ref 205, .int x1], [.int 14, .int (M 205 45)], hp nS M)) (by with_unfolding_all rfl)).trans ?_
  exact eq_cmp_ne (by with_unfolding_all rfl)
set_option maxRecDepth 20000 in
theorem b_256_37 {d nS : Nat} {x1 : Int32} {M : am_M} {Q : Option Value → am_H → Prop} : am_Wp d 256 37 [.ref 205, .int x1] [] (hp nS M) Q = Q (some (.int (-1))) (hp nS M) := by
  refine (eq_run 1 (q := (38, [.ref 205, .int x1], [.int (-1)], hp nS M)) (by with_unfolding_all rfl)).trans ?_
  exact eq_retI2 (e := (.ireturn, 1, 0, 0, 0)) (t := .int) (by with_unfolding_all rfl) rfl (by with_unfolding_all rfl) rfl
set_option maxRecDepth 20000 in
theorem b_256_39 {d nS : Nat} {x1 : Int32} {M : am_M} {Q : Option Value → am_H → Prop} (h1 : vp_in (M 205 45) 14) : am_Wp d 256 39 [.ref 205, .int x1] [] (hp nS M) Q = Q (some (.int ((am_up (am_up M 227 (M 205 45).toNatClampNeg x1) 205 45 (((am_up M 227 (M 205 45).toNatClampNeg x1) 205 45) + 1)) 205 45))) (hp nS (am_up (am_up M 227 (M 205 45).toNatClampNeg x1) 205 45 (((am_up M 227 (M 205 45).toNatClampNeg x1) 205 45) + 1))) := by
  refine (eq_run 5 (q := (48, [.ref 205, .int x1], [.int x1, .int (M 205 45), .ref 227], hp nS M)) (by with_unfolding_all rfl)).trans ?_
  refine (eq_ast (e := (.iastore, 1, 0, 0, 0)) (by with_unfolding_all rfl) rfl (n := 14) (by with_unfolding_all rfl) (by decide) h1).trans ?_
  refine (eq_run 8 (q := (63, [.ref 205, .int x1], [.int ((am_up (am_up M 227 (M 205 45).toNatClampNeg x1) 205 45 (((am_up M 227 (M 205 45).toNatClampNeg x1) 205 45) + 1)) 205 45)], hp nS (am_up (am_up M 227 (M 205 45).toNatClampNeg x1) 205 45 (((am_up M 227 (M 205 45).toNatClampNeg x1) 205 45) + 1)))) (by with_unfolding_all rfl)).trans ?_
  exact eq_retI2 (e := (.ireturn, 1, 0, 0, 0)) (t := .int) (by with_unfolding_all rfl) rfl (by with_unfolding_all rfl) rfl
-- trading(II)I
set_option maxRecDepth 20000 in
theorem b_257_0 {d nS : Nat} {x1 x2 : Int32} {M : am_M} {Q : Option Value → am_H → Prop} : am_Wp (d + 1) 257 0 [.ref 205, .int x1, .int x2, .retAddr 0, .retAddr 0] [] (hp nS M) Q = am_Wp d 171 0 [.ref 205, .int x1, .int 1, .int 5] [] (hp nS (am_up M 205 0 0)) (fun v h1 => am_Wp (d + 1) 257 12 [.ref 205, .int x1, .int x2, .retAddr 0, .retAddr 0] (am_ans v []) h1 Q) := by
  refine (eq_run 7 (q := (9, [.ref 205, .int x1, .int x2, .retAddr 0, .retAddr 0], [.int 5, .int 1, .int x1, .ref 205], hp nS (am_up M 205 0 0))) (by with_unfolding_all rfl)).trans ?_
  exact eq_call2 (e := (.invokevirtual 144, 3, 0, 171, 275)) (as := [.ref 205, .int x1, .int 1, .int 5]) (r := []) (n := 4) (m := 4) (by with_unfolding_all rfl) rfl (by decide) (by with_unfolding_all rfl) (by decide) (by with_unfolding_all rfl) ⟨fun _ => am_rec_ok (c := 14) (by with_unfolding_all rfl) (by decide +kernel), fun z => by simp at z⟩
set_option maxRecDepth 20000 in
theorem b_257_12 {d nS : Nat} {x1 x2 s0 : Int32} {M : am_M} {Q : Option Value → am_H → Prop} : am_Wp d 257 12 [.ref 205, .int x1, .int x2, .retAddr 0, .retAddr 0] [.int s0] (hp nS M) Q = if s0 = 0 then am_Wp d 257 25 [.ref 205, .int x1, .int x2, .retAddr 0, .retAddr 0] [] (hp nS M) Q else am_Wp d 257 15 [.ref 205, .int x1, .int x2, .retAddr 0, .retAddr 0] [] (hp nS M) Q := by
  exact eq_if_eq (by with_unfolding_all rfl)
set_option maxRecDepth 20000 in
theorem b_257_15 {d nS : Nat} {x1 x2 : Int32} {M : am_M} {Q : Option Value → am_H → Prop} : am_Wp (d + 1) 257 15 [.ref 205, .int x1, .int x2, .retAddr 0, .retAddr 0] [] (hp nS M) Q = am_Wp d 171 0 [.ref 205, .int x2, .int 0, .int 1] [] (hp nS M) (fun v h1 => am_Wp (d + 1) 257 22 [.ref 205, .int x1, .int x2, .retAddr 0, .retAddr 0] (am_ans v []) h1 Q) := by
  refine (eq_run 4 (q := (19, [.ref 205, .int x1, .int x2, .retAddr 0, .retAddr 0], [.int 1, .int 0, .int x2, .ref 205], hp nS M)) (by with_unfolding_all rfl)).trans ?_
  exact eq_call2 (e := (.invokevirtual 144, 3, 0, 171, 275)) (as := [.ref 205, .int x2, .int 0, .int 1]) (r := []) (n := 4) (m := 4) (by with_unfolding_all rfl) rfl (by decide) (by with_unfolding_all rfl) (by decide) (by with_unfolding_all rfl) ⟨fun _ => am_rec_ok (c := 14) (by with_unfolding_all rfl) (by decide +kernel), fun z => by simp at z⟩
set_option maxRecDepth 20000 in
theorem b_257_22 {d nS : Nat} {x1 x2 s0 : Int32} {M : am_M} {Q : Option Value → am_H → Prop} : am_Wp d 257 22 [.ref 205, .int x1, .int x2, .retAddr 0, .retAddr 0] [.int s0] (hp nS M) Q = if ¬ s0 = 0 then am_Wp d 257 27 [.ref 205, .int x1, .int x2, .retAddr 0, .retAddr 0] [] (hp nS M) Q else am_Wp d 257 25 [.ref 205, .int x1, .int x2, .retAddr 0, .retAddr 0] [] (hp nS M) Q := by
  exact eq_if_ne (by with_unfolding_all rfl)
set_option maxRecDepth 20000 in
theorem b_257_25 {d nS : Nat} {x1 x2 : Int32} {M : am_M} {Q : Option Value → am_H → Prop} : am_Wp d 257 25 [.ref 205, .int x1, .int x2, .retAddr 0, .retAddr 0] [] (hp nS M) Q = Q (some (.int (-1))) (hp nS M) := by
  refine (eq_run 1 (q := (26, [.ref 205, .int x1, .int x2, .retAddr 0, .retAddr 0], [.int (-1)], hp nS M)) (by with_unfolding_all rfl)).trans ?_
  exact eq_retI2 (e := (.ireturn, 1, 0, 0, 0)) (t := .int) (by with_unfolding_all rfl) rfl (by with_unfolding_all rfl) rfl
set_option maxRecDepth 20000 in
theorem b_257_27 {d nS : Nat} {x1 x2 : Int32} {M : am_M} {Q : Option Value → am_H → Prop} : am_Wp (d + 1) 257 27 [.ref 205, .int x1, .int x2, .retAddr 0, .retAddr 0] [] (hp nS M) Q = am_Wp d 258 0 [.ref 205, .int x1, .retAddr 0, .retAddr 0, .retAddr 0, .retAddr 0] [] (hp nS M) (fun v h1 => am_Wp (d + 1) 257 32 [.ref 205, .int x1, .int x2, .retAddr 0, .retAddr 0] (am_ans v []) h1 Q) := by
  refine (eq_run 2 (q := (29, [.ref 205, .int x1, .int x2, .retAddr 0, .retAddr 0], [.int x1, .ref 205], hp nS M)) (by with_unfolding_all rfl)).trans ?_
  exact eq_call2 (e := (.invokevirtual 413, 3, 0, 258, 345)) (as := [.ref 205, .int x1]) (r := []) (n := 2) (m := 6) (by with_unfolding_all rfl) rfl (by decide) (by with_unfolding_all rfl) (by decide) (by with_unfolding_all rfl) ⟨fun _ => am_rec_ok (c := 14) (by with_unfolding_all rfl) (by decide +kernel), fun z => by simp at z⟩
set_option maxRecDepth 20000 in
theorem b_257_32 {d nS : Nat} {x1 x2 s0 : Int32} {M : am_M} {Q : Option Value → am_H → Prop} : am_Wp d 257 32 [.ref 205, .int x1, .int x2, .retAddr 0, .retAddr 0] [.int s0] (hp nS M) Q = am_Wp d 257 36 [.ref 205, .int x1, .int x2, .int s0, .int 0] [] (hp nS M) Q := by
  exact eq_run 3 (q := (36, [.ref 205, .int x1, .int x2, .int s0, .int 0], [], hp nS M)) (by with_unfolding_all rfl)
set_option maxRecDepth 20000 in
theorem b_257_36 {d nS : Nat} {x1 x2 x3 x4 : Int32} {M : am_M} {Q : Option Value → am_H → Prop} : am_Wp (d + 1) 257 36 [.ref 205, .int x1, .int x2, .int x3, .int x4] [] (hp nS M) Q = am_Wp d 258 0 [.ref 205, .int x4, .retAddr 0, .retAddr 0, .retAddr 0, .retAddr 0] [] (hp nS M) (fun v h1 => am_Wp (d + 1) 257 42 [.ref 205, .int x1, .int x2, .int x3, .int x4] (am_ans v []) h1 Q) := by
  refine (eq_run 2 (q := (39, [.ref 205, .int x1, .int x2, .int x3, .int x4], [.int x4, .ref 205], hp nS M)) (by with_unfolding_all rfl)).trans ?_
  exact eq_call2 (e := (.invokevirtual 413, 3, 0, 258, 345)) (as := [.ref 205, .int x4]) (r := []) (n := 2) (m := 6) (by with_unfolding_all rfl) rfl (by decide) (by with_unfolding_all rfl) (by decide) (by with_unfolding_all rfl) ⟨fun _ => am_rec_ok (c := 14) (by with_unfolding_all rfl) (by decide +kernel), fun z => by simp at z⟩
set_option maxRecDepth 20000 in
theorem b_257_42 {d nS : Nat} {x1 x2 x3 x4 s0 : Int32} {M : am_M} {Q : Option Value → am_H → Prop} : am_Wp d 257 42 [.ref 205, .int x1, .int x2, .int x3, .int x4] [.int s0] (hp nS M) Q = if x3 ≤ s0 then am_Wp d 257 55 [.ref 205, .int x1, .int x2, .int x3, .int x4] [] (hp nS M) Q else am_Wp d 257 46 [.ref 205, .int x1, .int x2, .int x3, .int x4] [] (hp nS M) Q := by
  refine (eq_run 1 (q := (43, [.ref 205, .int x1, .int x2, .int x3, .int x4], [.int x3, .int s0], hp nS M)) (by with_unfolding_all rfl)).trans ?_
  exact eq_cmp_ge (by with_unfolding_all rfl)
set_option maxRecDepth 20000 in
theorem b_257_46 {d nS : Nat} {x1 x2 x3 x4 : Int32} {M : am_M} {Q : Option Value → am_H → Prop} : am_Wp d 257 46 [.ref 205, .int x1, .int x2, .int x3, .int x4] [] (hp nS M) Q = am_Wp d 257 36 [.ref 205, .int x1, .int x2, .int x3, .int (x4 + 1)] [] (hp nS M) Q := by
  exact eq_run 5 (q := (36, [.ref 205, .int x1, .int x2, .int x3, .int (x4 + 1)], [], hp nS M)) (by with_unfolding_all rfl)
set_option maxRecDepth 20000 in
theorem b_257_55 {d nS : Nat} {x1 x2 x3 x4 : Int32} {M : am_M} {Q : Option Value → am_H → Prop} : am_Wp d 257 55 [.ref 205, .int x1, .int x2, .int x3, .int x4] [] (hp nS M) Q = if ¬ x2 = 0 then am_Wp d 257 63 [.ref 205, .int x1, .int x2, .int x3, .int x4] [] (hp nS M) Q else am_Wp d 257 59 [.ref 205, .int x1, .int x2, .int x3, .int x4] [] (hp nS M) Q := by
  refine (eq_run 1 (q := (56, [.ref 205, .int x1, .int x2, .int x3, .int x4], [.int x2], hp nS M)) (by with_unfolding_all rfl)).trans ?_
  exact eq_if_ne (by with_unfolding_all rfl)
set_option maxRecDepth 20000 in
theorem b_257_59 {d nS : Nat} {x1 x2 x3 x4 : Int32} {M : am_M} {Q : Option Value → am_H → Prop} : am_Wp d 257 59 [.ref 205, .int x1, .int x2, .int x3, .int x4] [] (hp nS M) Q = am_Wp d 257 65 [.ref 205, .int x1, .int x2, .int x3, .int x4] [.int x3] (hp nS M) Q := by
  exact eq_run 2 (q := (65, [.ref 205, .int x1, .int x2, .int x3, .int x4], [.int x3], hp nS M)) (by with_unfolding_all rfl)
set_option maxRecDepth 20000 in
theorem b_257_63 {d nS : Nat} {x1 x2 x3 x4 : Int32} {M : am_M} {Q : Option Value → am_H → Prop} : am_Wp d 257 63 [.ref 205, .int x1, .int x2, .int x3, .int x4] [] (hp nS M) Q = am_Wp d 257 65 [.ref 205, .int x1, .int x2, .int x3, .int x4] [.int x4] (hp nS M) Q := by
  exact eq_run 1 (q := (65, [.ref 205, .int x1, .int x2, .int x3, .int x4], [.int x4], hp nS M)) (by with_unfolding_all rfl)
set_option maxRecDepth 20000 in
theorem b_257_65 {d nS : Nat} {x1 x2 x3 x4 s0 : Int32} {M : am_M} {Q : Option Value → am_H → Prop} : am_Wp d 257 65 [.ref 205, .int x1, .int x2, .int x3, .int x4] [.int s0] (hp nS M) Q = Q (some (.int s0)) (hp nS M) := by
  exact eq_retI2 (e := (.ireturn, 1, 0, 0, 0)) (t := .int) (by with_unfolding_all rfl) rfl (by with_unfolding_all rfl) rfl
-- gain(I)I
set_option maxRecDepth 20000 in
theorem b_258_0 {d nS : Nat} {x1 : Int32} {M : am_M} {Q : Option Value → am_H → Prop} : am_Wp d 258 0 [.ref 205, .int x1, .retAddr 0, .retAddr 0, .retAddr 0, .retAddr 0] [] (hp nS M) Q = am_Wp d 258 2 [.ref 205, .int x1, .int 0, .retAddr 0, .retAddr 0, .retAddr 0] [] (hp nS M) Q := by
  exact eq_run 2 (q := (2, [.ref 205, .int x1, .int 0, .retAddr 0, .retAddr 0, .retAddr 0], [], hp nS M)) (by with_unfolding_all rfl)
set_option maxRecDepth 20000 in
theorem b_258_2 {d nS : Nat} {x1 x2 : Int32} {zx3 zx4 zx5 : Value} {M : am_M} {Q : Option Value → am_H → Prop} : am_Wp d 258 2 [.ref 205, .int x1, .int x2, zx3, zx4, zx5] [] (hp nS M) Q = if x1 < x2 then am_Wp d 258 121 [.ref 205, .int x1, .int x2, zx3, zx4, zx5] [] (hp nS M) Q else am_Wp d 258 7 [.ref 205, .int x1, .int x2, zx3, zx4, zx5] [] (hp nS M) Q := by
  refine (eq_run 2 (q := (4, [.ref 205, .int x1, .int x2, zx3, zx4, zx5], [.int x1, .int x2], hp nS M)) (by with_unfolding_all rfl)).trans ?_
  exact eq_cmp_gt (by with_unfolding_all rfl)
set_option maxRecDepth 20000 in
theorem b_258_7 {d nS : Nat} {x1 x2 : Int32} {zx3 zx4 zx5 : Value} {M : am_M} {Q : Option Value → am_H → Prop} : am_Wp d 258 7 [.ref 205, .int x1, .int x2, zx3, zx4, zx5] [] (hp nS M) Q = am_Wp d 258 9 [.ref 205, .int x1, .int x2, .int 0, zx4, zx5] [] (hp nS M) Q := by
  exact eq_run 2 (q := (9, [.ref 205, .int x1, .int x2, .int 0, zx4, zx5], [], hp nS M)) (by with_unfolding_all rfl)
set_option maxRecDepth 20000 in
theorem b_258_9 {d nS : Nat} {x1 x2 x3 : Int32} {zx4 zx5 : Value} {M : am_M} {Q : Option Value → am_H → Prop} : am_Wp d 258 9 [.ref 205, .int x1, .int x2, .int x3, zx4, zx5] [] (hp nS M) Q = if (M 205 45) ≤ x3 then am_Wp d 258 115 [.ref 205, .int x1, .int x2, .int x3, zx4, zx5] [] (hp nS M) Q else am_Wp d 258 17 [.ref 205, .int x1, .int x2, .int x3, zx4, zx5] [] (hp nS M) Q := by
  refine (eq_run 3 (q := (14, [.ref 205, .int x1, .int x2, .int x3, zx4, zx5], [.int (M 205 45), .int x3], hp nS M)) (by with_unfolding_all rfl)).trans ?_
  exact eq_cmp_ge (by with_unfolding_all rfl)
set_option maxRecDepth 20000 in
theorem b_258_17 {d nS : Nat} {x1 x2 x3 : Int32} {zx4 zx5 : Value} {M : am_M} {Q : Option Value → am_H → Prop} : am_Wp d 258 17 [.ref 205, .int x1, .int x2, .int x3, zx4, zx5] [] (hp nS M) Q = if ¬ x3 = 0 then am_Wp d 258 25 [.ref 205, .int x1, .int x2, .int x3, zx4, zx5] [] (hp nS M) Q else am_Wp d 258 21 [.ref 205, .int x1, .int x2, .int x3, zx4, zx5] [] (hp nS M) Q := by
  refine (eq_run 1 (q := (18, [.ref 205, .int x1, .int x2, .int x3, zx4, zx5], [.int x3], hp nS M)) (by with_unfolding_all rfl)).trans ?_
  exact eq_if_ne (by with_unfolding_all rfl)
set_option maxRecDepth 20000 in
theorem b_258_21 {d nS : Nat} {x1 x2 x3 : Int32} {zx4 zx5 : Value} {M : am_M} {Q : Option Value → am_H → Prop} : am_Wp d 258 21 [.ref 205, .int x1, .int x2, .int x3, zx4, zx5] [] (hp nS M) Q = am_Wp d 258 38 [.ref 205, .int x1, .int x2, .int x3, zx4, zx5] [.int 0] (hp nS M) Q := by
  exact eq_run 2 (q := (38, [.ref 205, .int x1, .int x2, .int x3, zx4, zx5], [.int 0], hp nS M)) (by with_unfolding_all rfl)
set_option maxRecDepth 20000 in
theorem b_258_25 {d nS : Nat} {x1 x2 x3 : Int32} {zx4 zx5 : Value} {M : am_M} {Q : Option Value → am_H → Prop} (h1 : vp_in (((14 * x2) + x3) - 1) 84) : am_Wp d 258 25 [.ref 205, .int x1, .int x2, .int x3, zx4, zx5] [] (hp nS M) Q = am_Wp d 258 38 [.ref 205, .int x1, .int x2, .int x3, zx4, zx5] [.int (M 228 (((14 * x2) + x3) - 1).toNatClampNeg)] (hp nS M) Q := by
  refine (eq_run 9 (q := (37, [.ref 205, .int x1, .int x2, .int x3, zx4, zx5], [.int (((14 * x2) + x3) - 1), .ref 228], hp nS M)) (by with_unfolding_all rfl)).trans ?_
  exact eq_ald (e := (.iaload, 1, 0, 0, 0)) (by with_unfolding_all rfl) rfl (n := 84) (by with_unfolding_all rfl) h1
set_option maxRecDepth 20000 in
theorem b_258_38 {d nS : Nat} {x1 x2 x3 s0 : Int32} {zx4 zx5 : Value} {M : am_M} {Q : Option Value → am_H → Prop} : am_Wp d 258 38 [.ref 205, .int x1, .int x2, .int x3, zx4, zx5] [.int s0] (hp nS M) Q = am_Wp d 258 43 [.ref 205, .int x1, .int x2, .int x3, .int s0, .int 0] [] (hp nS M) Q := by
  exact eq_run 3 (q := (43, [.ref 205, .int x1, .int x2, .int x3, .int s0, .int 0], [], hp nS M)) (by with_unfolding_all rfl)
set_option maxRecDepth 20000 in
theorem b_258_43 {d nS : Nat} {x1 x2 x3 x4 x5 : Int32} {M : am_M} {Q : Option Value → am_H → Prop} : am_Wp d 258 43 [.ref 205, .int x1, .int x2, .int x3, .int x4, .int x5] [] (hp nS M) Q = if x3 ≤ x5 then am_Wp d 258 96 [.ref 205, .int x1, .int x2, .int x3, .int x4, .int x5] [] (hp nS M) Q else am_Wp d 258 49 [.ref 205, .int x1, .int x2, .int x3, .int x4, .int x5] [] (hp nS M) Q := by
  refine (eq_run 2 (q := (46, [.ref 205, .int x1, .int x2, .int x3, .int x4, .int x5], [.int x3, .int x5], hp nS M)) (by with_unfolding_all rfl)).trans ?_
  exact eq_cmp_ge (by with_unfolding_all rfl)
set_option maxRecDepth 20000 in
theorem b_258_49 {d nS : Nat} {x1 x2 x3 x4 x5 : Int32} {M : am_M} {Q : Option Value → am_H → Prop} : am_Wp d 258 49 [.ref 205, .int x1, .int x2, .int x3, .int x4, .int x5] [] (hp nS M) Q = if x2 ≤ 0 then am_Wp d 258 96 [.ref 205, .int x1, .int x2, .int x3, .int x4, .int x5] [] (hp nS M) Q else am_Wp d 258 53 [.ref 205, .int x1, .int x2, .int x3, .int x4, .int x5] [] (hp nS M) Q := by
  refine (eq_run 1 (q := (50, [.ref 205, .int x1, .int x2, .int x3, .int x4, .int x5], [.int x2], hp nS M)) (by with_unfolding_all rfl)).trans ?_
  exact eq_if_le (by with_unfolding_all rfl)
set_option maxRecDepth 20000 in
theorem b_258_53 {d nS : Nat} {x1 x2 x3 x4 x5 : Int32} {M : am_M} {Q : Option Value → am_H → Prop} (h1 : vp_in x3 14) (h2 : vp_in x5 14) (h3 : vp_in ((14 * (x2 - 1)) + x5) 84) : am_Wp (d + 1) 258 53 [.ref 205, .int x1, .int x2, .int x3, .int x4, .int x5] [] (hp nS M) Q = am_Wp d 239 0 [.ref 205, .int x4, .int (((M 227 x3.toNatClampNeg) - (M 227 x5.toNatClampNeg)) + (M 228 ((14 * (x2 - 1)) + x5).toNatClampNeg))] [] (hp nS M) (fun v h1 => am_Wp (d + 1) 258 88 [.ref 205, .int x1, .int x2, .int x3, .int x4, .int x5] (am_ans v []) h1 Q) := by
  refine (eq_run 5 (q := (61, [.ref 205, .int x1, .int x2, .int x3, .int x4, .int x5], [.int x3, .ref 227, .int x4, .ref 205], hp nS M)) (by with_unfolding_all rfl)).trans ?_
  refine (eq_ald (e := (.iaload, 1, 0, 0, 0)) (by with_unfolding_all rfl) rfl (n := 14) (by with_unfolding_all rfl) h1).trans ?_
  refine (eq_run 3 (q := (68, [.ref 205, .int x1, .int x2, .int x3, .int x4, .int x5], [.int x5, .ref 227, .int (M 227 x3.toNatClampNeg), .int x4, .ref 205], hp nS M)) (by with_unfolding_all rfl)).trans ?_
  refine (eq_ald (e := (.iaload, 1, 0, 0, 0)) (by with_unfolding_all rfl) rfl (n := 14) (by with_unfolding_all rfl) h2).trans ?_
  refine (eq_run 10 (q := (83, [.ref 205, .int x1, .int x2, .int x3, .int x4, .int x5], [.int ((14 * (x2 - 1)) + x5), .ref 228, .int ((M 227 x3.toNatClampNeg) - (M 227 x5.toNatClampNeg)), .int x4, .ref 205], hp nS M)) (by with_unfolding_all rfl)).trans ?_
  refine (eq_ald (e := (.iaload, 1, 0, 0, 0)) (by with_unfolding_all rfl) rfl (n := 84) (by with_unfolding_all rfl) h3).trans ?_
  refine (eq_run 1 (q := (85, [.ref 205, .int x1, .int x2, .int x3, .int x4, .int x5], [.int (((M 227 x3.toNatClampNeg) - (M 227 x5.toNatClampNeg)) + (M 228 ((14 * (x2 - 1)) + x5).toNatClampNeg)), .int x4, .ref 205], hp nS M)) (by with_unfolding_all rfl)).trans ?_
  exact eq_call2 (e := (.invokevirtual 370, 3, 0, 239, 332)) (as := [.ref 205, .int x4, .int (((M 227 x3.toNatClampNeg) - (M 227 x5.toNatClampNeg)) + (M 228 ((14 * (x2 - 1)) + x5).toNatClampNeg))]) (r := []) (n := 3) (m := 3) (by with_unfolding_all rfl) rfl (by decide) (by with_unfolding_all rfl) (by decide) (by with_unfolding_all rfl) ⟨fun _ => am_rec_ok (c := 14) (by with_unfolding_all rfl) (by decide +kernel), fun z => by simp at z⟩
set_option maxRecDepth 20000 in
theorem b_258_88 {d nS : Nat} {x1 x2 x3 x4 x5 s0 : Int32} {M : am_M} {Q : Option Value → am_H → Prop} : am_Wp d 258 88 [.ref 205, .int x1, .int x2, .int x3, .int x4, .int x5] [.int s0] (hp nS M) Q = am_Wp d 258 43 [.ref 205, .int x1, .int x2, .int x3, .int s0, .int (x5 + 1)] [] (hp nS M) Q := by
  exact eq_run 3 (q := (43, [.ref 205, .int x1, .int x2, .int x3, .int s0, .int (x5 + 1)], [], hp nS M)) (by with_unfolding_all rfl)
set_option maxRecDepth 20000 in
theorem b_258_96 {d nS : Nat} {x1 x2 x3 x4 x5 : Int32} {M : am_M} {Q : Option Value → am_H → Prop} (h1 : vp_in ((14 * x2) + x3) 84) : am_Wp d 258 96 [.ref 205, .int x1, .int x2, .int x3, .int x4, .int x5] [] (hp nS M) Q = am_Wp d 258 9 [.ref 205, .int x1, .int x2, .int (x3 + 1), .int x4, .int x5] [] (hp nS (am_up M 228 ((14 * x2) + x3).toNatClampNeg x4)) Q := by
  refine (eq_run 8 (q := (108, [.ref 205, .int x1, .int x2, .int x3, .int x4, .int x5], [.int x4, .int ((14 * x2) + x3), .ref 228], hp nS M)) (by with_unfolding_all rfl)).trans ?_
  refine (eq_ast (e := (.iastore, 1, 0, 0, 0)) (by with_unfolding_all rfl) rfl (n := 84) (by with_unfolding_all rfl) (by decide) h1).trans ?_
  exact eq_run 2 (q := (9, [.ref 205, .int x1, .int x2, .int (x3 + 1), .int x4, .int x5], [], hp nS (am_up M 228 ((14 * x2) + x3).toNatClampNeg x4))) (by with_unfolding_all rfl)
set_option maxRecDepth 20000 in
theorem b_258_115 {d nS : Nat} {x1 x2 x3 : Int32} {zx4 zx5 : Value} {M : am_M} {Q : Option Value → am_H → Prop} : am_Wp d 258 115 [.ref 205, .int x1, .int x2, .int x3, zx4, zx5] [] (hp nS M) Q = am_Wp d 258 2 [.ref 205, .int x1, .int (x2 + 1), .int x3, zx4, zx5] [] (hp nS M) Q := by
  exact eq_run 2 (q := (2, [.ref 205, .int x1, .int (x2 + 1), .int x3, zx4, zx5], [], hp nS M)) (by with_unfolding_all rfl)
set_option maxRecDepth 20000 in
theorem b_258_121 {d nS : Nat} {x1 x2 : Int32} {zx3 zx4 zx5 : Value} {M : am_M} {Q : Option Value → am_H → Prop} : am_Wp d 258 121 [.ref 205, .int x1, .int x2, zx3, zx4, zx5] [] (hp nS M) Q = if ¬ (M 205 45) = 0 then am_Wp d 258 132 [.ref 205, .int x1, .int x2, zx3, zx4, zx5] [] (hp nS M) Q else am_Wp d 258 128 [.ref 205, .int x1, .int x2, zx3, zx4, zx5] [] (hp nS M) Q := by
  refine (eq_run 2 (q := (125, [.ref 205, .int x1, .int x2, zx3, zx4, zx5], [.int (M 205 45)], hp nS M)) (by with_unfolding_all rfl)).trans ?_
  exact eq_if_ne (by with_unfolding_all rfl)
set_option maxRecDepth 20000 in
theorem b_258_128 {d nS : Nat} {x1 x2 : Int32} {zx3 zx4 zx5 : Value} {M : am_M} {Q : Option Value → am_H → Prop} : am_Wp d 258 128 [.ref 205, .int x1, .int x2, zx3, zx4, zx5] [] (hp nS M) Q = am_Wp d 258 148 [.ref 205, .int x1, .int x2, zx3, zx4, zx5] [.int 0] (hp nS M) Q := by
  exact eq_run 2 (q := (148, [.ref 205, .int x1, .int x2, zx3, zx4, zx5], [.int 0], hp nS M)) (by with_unfolding_all rfl)
set_option maxRecDepth 20000 in
theorem b_258_132 {d nS : Nat} {x1 x2 : Int32} {zx3 zx4 zx5 : Value} {M : am_M} {Q : Option Value → am_H → Prop} (h1 : vp_in (((14 * x1) + (M 205 45)) - 1) 84) : am_Wp d 258 132 [.ref 205, .int x1, .int x2, zx3, zx4, zx5] [] (hp nS M) Q = am_Wp d 258 148 [.ref 205, .int x1, .int x2, zx3, zx4, zx5] [.int (M 228 (((14 * x1) + (M 205 45)) - 1).toNatClampNeg)] (hp nS M) Q := by
  refine (eq_run 10 (q := (147, [.ref 205, .int x1, .int x2, zx3, zx4, zx5], [.int (((14 * x1) + (M 205 45)) - 1), .ref 228], hp nS M)) (by with_unfolding_all rfl)).trans ?_
  exact eq_ald (e := (.iaload, 1, 0, 0, 0)) (by with_unfolding_all rfl) rfl (n := 84) (by with_unfolding_all rfl) h1
set_option maxRecDepth 20000 in
theorem b_258_148 {d nS : Nat} {x1 x2 s0 : Int32} {zx3 zx4 zx5 : Value} {M : am_M} {Q : Option Value → am_H → Prop} : am_Wp d 258 148 [.ref 205, .int x1, .int x2, zx3, zx4, zx5] [.int s0] (hp nS M) Q = Q (some (.int s0)) (hp nS M) := by
  exact eq_retI2 (e := (.ireturn, 1, 0, 0, 0)) (t := .int) (by with_unfolding_all rfl) rfl (by with_unfolding_all rfl) rfl
