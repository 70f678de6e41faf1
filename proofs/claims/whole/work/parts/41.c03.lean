-- LarkExchange$Row takes(I)I (65, (45, None))
set_option maxRecDepth 20000 in
theorem b_65_0 {d nS : Nat} {x1 : Int32} {M : am_M} {Q : Option Value → am_H → Prop} : am_Wp d 65 0 [.ref 45, .int x1] [] (hp nS M) Q = if ¬ x1 = (-1) then am_Wp d 65 12 [.ref 45, .int x1] [] (hp nS M) Q else am_Wp d 65 5 [.ref 45, .int x1] [] (hp nS M) Q := by
  refine (eq_run 2 (q := (2, [.ref 45, .int x1], [.int (-1), .int x1], hp nS M)) (by with_unfolding_all rfl)).trans ?_
  exact eq_cmp_ne (by with_unfolding_all rfl)
set_option maxRecDepth 20000 in
theorem b_65_5 {d nS : Nat} {x1 : Int32} {M : am_M} {Q : Option Value → am_H → Prop} : am_Wp d 65 5 [.ref 45, .int x1] [] (hp nS M) Q = Q (some (.int 0)) (hp nS (am_up M 45 1 0)) := by
  refine (eq_run 4 (q := (11, [.ref 45, .int x1], [.int 0], hp nS (am_up M 45 1 0))) (by with_unfolding_all rfl)).trans ?_
  exact eq_retI2 (e := (.ireturn, 1, 0, 0, 0)) (t := .int) (by with_unfolding_all rfl) rfl (by with_unfolding_all rfl) rfl
set_option maxRecDepth 20000 in
theorem b_65_12 {d nS : Nat} {x1 : Int32} {M : am_M} {Q : Option Value → am_H → Prop} : am_Wp d 65 12 [.ref 45, .int x1] [] (hp nS M) Q = if x1 < 1 then am_Wp d 65 32 [.ref 45, .int x1] [] (hp nS M) Q else am_Wp d 65 17 [.ref 45, .int x1] [] (hp nS M) Q := by
  refine (eq_run 2 (q := (14, [.ref 45, .int x1], [.int 1, .int x1], hp nS M)) (by with_unfolding_all rfl)).trans ?_
  exact eq_cmp_lt (by with_unfolding_all rfl)
set_option maxRecDepth 20000 in
theorem b_65_17 {d nS : Nat} {x1 : Int32} {M : am_M} {Q : Option Value → am_H → Prop} : am_Wp d 65 17 [.ref 45, .int x1] [] (hp nS M) Q = if 99 < x1 then am_Wp d 65 32 [.ref 45, .int x1] [] (hp nS M) Q else am_Wp d 65 23 [.ref 45, .int x1] [] (hp nS M) Q := by
  refine (eq_run 2 (q := (20, [.ref 45, .int x1], [.int 99, .int x1], hp nS M)) (by with_unfolding_all rfl)).trans ?_
  exact eq_cmp_gt (by with_unfolding_all rfl)
set_option maxRecDepth 20000 in
theorem b_65_23 {d nS : Nat} {x1 : Int32} {M : am_M} {Q : Option Value → am_H → Prop} : am_Wp d 65 23 [.ref 45, .int x1] [] (hp nS M) Q = if (M 45 1) < 14 then am_Wp d 65 34 [.ref 45, .int x1] [] (hp nS M) Q else am_Wp d 65 32 [.ref 45, .int x1] [] (hp nS M) Q := by
  refine (eq_run 3 (q := (29, [.ref 45, .int x1], [.int 14, .int (M 45 1)], hp nS M)) (by with_unfolding_all rfl)).trans ?_
  exact eq_cmp_lt (by with_unfolding_all rfl)
set_option maxRecDepth 20000 in
theorem b_65_32 {d nS : Nat} {x1 : Int32} {M : am_M} {Q : Option Value → am_H → Prop} : am_Wp d 65 32 [.ref 45, .int x1] [] (hp nS M) Q = Q (some (.int (-1))) (hp nS M) := by
  refine (eq_run 1 (q := (33, [.ref 45, .int x1], [.int (-1)], hp nS M)) (by with_unfolding_all rfl)).trans ?_
  exact eq_retI2 (e := (.ireturn, 1, 0, 0, 0)) (t := .int) (by with_unfolding_all rfl) rfl (by with_unfolding_all rfl) rfl
set_option maxRecDepth 20000 in
theorem b_65_34 {d nS : Nat} {x1 : Int32} {M : am_M} {Q : Option Value → am_H → Prop} (h1 : vp_in (M 45 1) 14) : am_Wp d 65 34 [.ref 45, .int x1] [] (hp nS M) Q = Q (some (.int ((am_up (am_up M 46 (M 45 1).toNatClampNeg x1) 45 1 (((am_up M 46 (M 45 1).toNatClampNeg x1) 45 1) + 1)) 45 1))) (hp nS (am_up (am_up M 46 (M 45 1).toNatClampNeg x1) 45 1 (((am_up M 46 (M 45 1).toNatClampNeg x1) 45 1) + 1))) := by
  refine (eq_run 5 (q := (43, [.ref 45, .int x1], [.int x1, .int (M 45 1), .ref 46], hp nS M)) (by with_unfolding_all rfl)).trans ?_
  refine (eq_ast (e := (.iastore, 1, 0, 0, 0)) (by with_unfolding_all rfl) rfl (n := 14) (by with_unfolding_all rfl) (by decide) h1).trans ?_
  refine (eq_run 8 (q := (58, [.ref 45, .int x1], [.int ((am_up (am_up M 46 (M 45 1).toNatClampNeg x1) 45 1 (((am_up M 46 (M 45 1).toNatClampNeg x1) 45 1) + 1)) 45 1)], hp nS (am_up (am_up M 46 (M 45 1).toNatClampNeg x1) 45 1 (((am_up M 46 (M 45 1).toNatClampNeg x1) 45 1) + 1)))) (by with_unfolding_all rfl)).trans ?_
  exact eq_retI2 (e := (.ireturn, 1, 0, 0, 0)) (t := .int) (by with_unfolding_all rfl) rfl (by with_unfolding_all rfl) rfl
-- LarkExchange$Row mostGain(I)I (66, (45, None))
set_option maxRecDepth 20000 in
theorem b_66_0 {d nS : Nat} {x1 : Int32} {M : am_M} {Q : Option Value → am_H → Prop} : am_Wp (d + 1) 66 0 [.ref 45, .int x1] [] (hp nS M) Q = am_Wp d 67 0 [.ref 45, .retAddr 0, .retAddr 0] [] (hp nS M) (fun v h1 => am_Wp (d + 1) 66 4 [.ref 45, .int x1] (am_ans v []) h1 Q) := by
  refine (eq_run 1 (q := (1, [.ref 45, .int x1], [.ref 45], hp nS M)) (by with_unfolding_all rfl)).trans ?_
  exact eq_call2 (e := (.invokevirtual 44, 3, 0, 67, 137)) (as := [.ref 45]) (r := []) (n := 1) (m := 3) (by with_unfolding_all rfl) rfl (by decide) (by with_unfolding_all rfl) (by decide) (by with_unfolding_all rfl) ⟨fun _ => am_rec_ok (c := 9) (by with_unfolding_all rfl) (by decide +kernel), fun z => by simp at z⟩
set_option maxRecDepth 20000 in
theorem b_66_4 {d nS : Nat} {x1 : Int32} {M : am_M} {Q : Option Value → am_H → Prop} : am_Wp (d + 1) 66 4 [.ref 45, .int x1] [] (hp nS M) Q = am_Wp d 296 0 [.int x1, .int 5] [] (hp nS M) (fun v h1 => am_Wp (d + 1) 66 13 [.ref 45, .int x1] (am_ans v [.ref 48]) h1 Q) := by
  refine (eq_run 4 (q := (10, [.ref 45, .int x1], [.int 5, .int x1, .ref 48], hp nS M)) (by with_unfolding_all rfl)).trans ?_
  exact eq_call2 (e := (.invokestatic 47, 3, 1, 296, 138)) (as := [.int x1, .int 5]) (r := [.ref 48]) (n := 2) (m := 2) (by with_unfolding_all rfl) rfl (by decide) (by with_unfolding_all rfl) (by decide) (by with_unfolding_all rfl) ⟨fun z => absurd z (by decide), fun z => by simp at z⟩
set_option maxRecDepth 20000 in
theorem b_66_13 {d nS : Nat} {x1 s1 : Int32} {M : am_M} {Q : Option Value → am_H → Prop} (h1 : vp_in s1 6) : am_Wp d 66 13 [.ref 45, .int x1] [.int s1, .ref 48] (hp nS M) Q = Q (some (.int (M 48 s1.toNatClampNeg))) (hp nS M) := by
  refine (eq_ald (e := (.iaload, 1, 0, 0, 0)) (by with_unfolding_all rfl) rfl (n := 6) (by with_unfolding_all rfl) h1).trans ?_
  exact eq_retI2 (e := (.ireturn, 1, 0, 0, 0)) (t := .int) (by with_unfolding_all rfl) rfl (by with_unfolding_all rfl) rfl
-- LarkExchange$Row weighs()V (67, (45,))
set_option maxRecDepth 20000 in
theorem b_67_0 {d nS : Nat} {M : am_M} {Q : Option Value → am_H → Prop} : am_Wp (d + 1) 67 0 [.ref 45, .retAddr 0, .retAddr 0] [] (hp nS M) Q = am_Wp d 299 0 [.ref 48, .int 0, .retAddr 0, .retAddr 0] [] (hp nS M) (fun v h1 => am_Wp (d + 1) 67 8 [.ref 45, .retAddr 0, .retAddr 0] (am_ans v []) h1 Q) := by
  refine (eq_run 3 (q := (5, [.ref 45, .retAddr 0, .retAddr 0], [.int 0, .ref 48], hp nS M)) (by with_unfolding_all rfl)).trans ?_
  exact eq_call2 (e := (.invokestatic 32, 3, 1, 299, 135)) (as := [.ref 48, .int 0]) (r := []) (n := 2) (m := 4) (by with_unfolding_all rfl) rfl (by decide) (by with_unfolding_all rfl) (by decide) (by with_unfolding_all rfl) ⟨fun z => absurd z (by decide), fun z => by simp at z⟩
set_option maxRecDepth 20000 in
theorem b_67_8 {d nS : Nat} {M : am_M} {Q : Option Value → am_H → Prop} : am_Wp (d + 1) 67 8 [.ref 45, .retAddr 0, .retAddr 0] [] (hp nS M) Q = am_Wp d 299 0 [.ref 49, .int (-1000), .retAddr 0, .retAddr 0] [] (hp nS M) (fun v h1 => am_Wp (d + 1) 67 18 [.ref 45, .retAddr 0, .retAddr 0] (am_ans v []) h1 Q) := by
  refine (eq_run 3 (q := (15, [.ref 45, .retAddr 0, .retAddr 0], [.int (-1000), .ref 49], hp nS M)) (by with_unfolding_all rfl)).trans ?_
  exact eq_call2 (e := (.invokestatic 32, 3, 1, 299, 135)) (as := [.ref 49, .int (-1000)]) (r := []) (n := 2) (m := 4) (by with_unfolding_all rfl) rfl (by decide) (by with_unfolding_all rfl) (by decide) (by with_unfolding_all rfl) ⟨fun z => absurd z (by decide), fun z => by simp at z⟩
set_option maxRecDepth 20000 in
theorem b_67_18 {d nS : Nat} {M : am_M} {Q : Option Value → am_H → Prop} : am_Wp d 67 18 [.ref 45, .retAddr 0, .retAddr 0] [] (hp nS M) Q = am_Wp d 67 20 [.ref 45, .int 0, .retAddr 0] [] (hp nS M) Q := by
  exact eq_run 2 (q := (20, [.ref 45, .int 0, .retAddr 0], [], hp nS M)) (by with_unfolding_all rfl)
set_option maxRecDepth 20000 in
theorem b_67_20 {d nS : Nat} {x1 : Int32} {zx2 : Value} {M : am_M} {Q : Option Value → am_H → Prop} : am_Wp d 67 20 [.ref 45, .int x1, zx2] [] (hp nS M) Q = if (M 45 1) ≤ x1 then am_Wp d 67 105 [.ref 45, .int x1, zx2] [] (hp nS M) Q else am_Wp d 67 28 [.ref 45, .int x1, zx2] [] (hp nS M) Q := by
  refine (eq_run 3 (q := (25, [.ref 45, .int x1, zx2], [.int (M 45 1), .int x1], hp nS M)) (by with_unfolding_all rfl)).trans ?_
  exact eq_cmp_ge (by with_unfolding_all rfl)
set_option maxRecDepth 20000 in
theorem b_67_28 {d nS : Nat} {x1 : Int32} {zx2 : Value} {M : am_M} {Q : Option Value → am_H → Prop} : am_Wp d 67 28 [.ref 45, .int x1, zx2] [] (hp nS M) Q = am_Wp d 67 30 [.ref 45, .int x1, .int 5] [] (hp nS M) Q := by
  exact eq_run 2 (q := (30, [.ref 45, .int x1, .int 5], [], hp nS M)) (by with_unfolding_all rfl)
set_option maxRecDepth 20000 in
theorem b_67_30 {d nS : Nat} {x1 x2 : Int32} {M : am_M} {Q : Option Value → am_H → Prop} : am_Wp d 67 30 [.ref 45, .int x1, .int x2] [] (hp nS M) Q = if x2 < 1 then am_Wp d 67 99 [.ref 45, .int x1, .int x2] [] (hp nS M) Q else am_Wp d 67 35 [.ref 45, .int x1, .int x2] [] (hp nS M) Q := by
  refine (eq_run 2 (q := (32, [.ref 45, .int x1, .int x2], [.int 1, .int x2], hp nS M)) (by with_unfolding_all rfl)).trans ?_
  exact eq_cmp_lt (by with_unfolding_all rfl)
set_option maxRecDepth 20000 in
theorem b_67_35 {d nS : Nat} {x1 x2 : Int32} {M : am_M} {Q : Option Value → am_H → Prop} (h1 : vp_in x2 6) (h2 : vp_in x2 6) (h3 : vp_in x1 14) : am_Wp (d + 1) 67 35 [.ref 45, .int x1, .int x2] [] (hp nS M) Q = am_Wp d 297 0 [.int (M 48 x2.toNatClampNeg), .int ((M 49 x2.toNatClampNeg) + (M 46 x1.toNatClampNeg))] [] (hp nS M) (fun v h1 => am_Wp (d + 1) 67 62 [.ref 45, .int x1, .int x2] (am_ans v [.int x2, .ref 48]) h1 Q) := by
  refine (eq_run 6 (q := (45, [.ref 45, .int x1, .int x2], [.int x2, .ref 48, .int x2, .ref 48], hp nS M)) (by with_unfolding_all rfl)).trans ?_
  refine (eq_ald (e := (.iaload, 1, 0, 0, 0)) (by with_unfolding_all rfl) rfl (n := 6) (by with_unfolding_all rfl) h1).trans ?_
  refine (eq_run 3 (q := (51, [.ref 45, .int x1, .int x2], [.int x2, .ref 49, .int (M 48 x2.toNatClampNeg), .int x2, .ref 48], hp nS M)) (by with_unfolding_all rfl)).trans ?_
  refine (eq_ald (e := (.iaload, 1, 0, 0, 0)) (by with_unfolding_all rfl) rfl (n := 6) (by with_unfolding_all rfl) h2).trans ?_
  refine (eq_run 3 (q := (57, [.ref 45, .int x1, .int x2], [.int x1, .ref 46, .int (M 49 x2.toNatClampNeg), .int (M 48 x2.toNatClampNeg), .int x2, .ref 48], hp nS M)) (by with_unfolding_all rfl)).trans ?_
  refine (eq_ald (e := (.iaload, 1, 0, 0, 0)) (by with_unfolding_all rfl) rfl (n := 14) (by with_unfolding_all rfl) h3).trans ?_
  refine (eq_run 1 (q := (59, [.ref 45, .int x1, .int x2], [.int ((M 49 x2.toNatClampNeg) + (M 46 x1.toNatClampNeg)), .int (M 48 x2.toNatClampNeg), .int x2, .ref 48], hp nS M)) (by with_unfolding_all rfl)).trans ?_
  exact eq_call2 (e := (.invokestatic 38, 3, 1, 297, 136)) (as := [.int (M 48 x2.toNatClampNeg), .int ((M 49 x2.toNatClampNeg) + (M 46 x1.toNatClampNeg))]) (r := [.int x2, .ref 48]) (n := 2) (m := 2) (by with_unfolding_all rfl) rfl (by decide) (by with_unfolding_all rfl) (by decide) (by with_unfolding_all rfl) ⟨fun z => absurd z (by decide), fun z => by simp at z⟩
set_option maxRecDepth 20000 in
theorem b_67_62 {d nS : Nat} {x1 x2 s1 s2 : Int32} {M : am_M} {Q : Option Value → am_H → Prop} (h1 : vp_in s1 6) (h2 : vp_in x2 6) (h3 : vp_in (x2 - 1) 6) (h4 : vp_in x1 14) : am_Wp (d + 1) 67 62 [.ref 45, .int x1, .int x2] [.int s2, .int s1, .ref 48] (hp nS M) Q = am_Wp d 297 0 [.int ((am_up M 48 s1.toNatClampNeg s2) 49 x2.toNatClampNeg), .int (((am_up M 48 s1.toNatClampNeg s2) 48 (x2 - 1).toNatClampNeg) - ((am_up M 48 s1.toNatClampNeg s2) 46 x1.toNatClampNeg))] [] (hp nS (am_up M 48 s1.toNatClampNeg s2)) (fun v h1 => am_Wp (d + 1) 67 92 [.ref 45, .int x1, .int x2] (am_ans v [.int x2, .ref 49]) h1 Q) := by
  refine (eq_ast (e := (.iastore, 1, 0, 0, 0)) (by with_unfolding_all rfl) rfl (n := 6) (by with_unfolding_all rfl) (by decide) h1).trans ?_
  refine (eq_run 6 (q := (73, [.ref 45, .int x1, .int x2], [.int x2, .ref 49, .int x2, .ref 49], hp nS (am_up M 48 s1.toNatClampNeg s2))) (by with_unfolding_all rfl)).trans ?_
  refine (eq_ald (e := (.iaload, 1, 0, 0, 0)) (by with_unfolding_all rfl) rfl (n := 6) (by with_unfolding_all rfl) h2).trans ?_
  refine (eq_run 5 (q := (81, [.ref 45, .int x1, .int x2], [.int (x2 - 1), .ref 48, .int ((am_up M 48 s1.toNatClampNeg s2) 49 x2.toNatClampNeg), .int x2, .ref 49], hp nS (am_up M 48 s1.toNatClampNeg s2))) (by with_unfolding_all rfl)).trans ?_
  refine (eq_ald (e := (.iaload, 1, 0, 0, 0)) (by with_unfolding_all rfl) rfl (n := 6) (by with_unfolding_all rfl) h3).trans ?_
  refine (eq_run 3 (q := (87, [.ref 45, .int x1, .int x2], [.int x1, .ref 46, .int ((am_up M 48 s1.toNatClampNeg s2) 48 (x2 - 1).toNatClampNeg), .int ((am_up M 48 s1.toNatClampNeg s2) 49 x2.toNatClampNeg), .int x2, .ref 49], hp nS (am_up M 48 s1.toNatClampNeg s2))) (by with_unfolding_all rfl)).trans ?_
  refine (eq_ald (e := (.iaload, 1, 0, 0, 0)) (by with_unfolding_all rfl) rfl (n := 14) (by with_unfolding_all rfl) h4).trans ?_
  refine (eq_run 1 (q := (89, [.ref 45, .int x1, .int x2], [.int (((am_up M 48 s1.toNatClampNeg s2) 48 (x2 - 1).toNatClampNeg) - ((am_up M 48 s1.toNatClampNeg s2) 46 x1.toNatClampNeg)), .int ((am_up M 48 s1.toNatClampNeg s2) 49 x2.toNatClampNeg), .int x2, .ref 49], hp nS (am_up M 48 s1.toNatClampNeg s2))) (by with_unfolding_all rfl)).trans ?_
  exact eq_call2 (e := (.invokestatic 38, 3, 1, 297, 136)) (as := [.int ((am_up M 48 s1.toNatClampNeg s2) 49 x2.toNatClampNeg), .int (((am_up M 48 s1.toNatClampNeg s2) 48 (x2 - 1).toNatClampNeg) - ((am_up M 48 s1.toNatClampNeg s2) 46 x1.toNatClampNeg))]) (r := [.int x2, .ref 49]) (n := 2) (m := 2) (by with_unfolding_all rfl) rfl (by decide) (by with_unfolding_all rfl) (by decide) (by with_unfolding_all rfl) ⟨fun z => absurd z (by decide), fun z => by simp at z⟩
set_option maxRecDepth 20000 in
theorem b_67_92 {d nS : Nat} {x1 x2 s1 s2 : Int32} {M : am_M} {Q : Option Value → am_H → Prop} (h1 : vp_in s1 6) : am_Wp d 67 92 [.ref 45, .int x1, .int x2] [.int s2, .int s1, .ref 49] (hp nS M) Q = am_Wp d 67 30 [.ref 45, .int x1, .int (x2 + (-1))] [] (hp nS (am_up M 49 s1.toNatClampNeg s2)) Q := by
  refine (eq_ast (e := (.iastore, 1, 0, 0, 0)) (by with_unfolding_all rfl) rfl (n := 6) (by with_unfolding_all rfl) (by decide) h1).trans ?_
  exact eq_run 2 (q := (30, [.ref 45, .int x1, .int (x2 + (-1))], [], hp nS (am_up M 49 s1.toNatClampNeg s2))) (by with_unfolding_all rfl)
set_option maxRecDepth 20000 in
theorem b_67_99 {d nS : Nat} {x1 x2 : Int32} {M : am_M} {Q : Option Value → am_H → Prop} : am_Wp d 67 99 [.ref 45, .int x1, .int x2] [] (hp nS M) Q = am_Wp d 67 20 [.ref 45, .int (x1 + 1), .int x2] [] (hp nS M) Q := by
  exact eq_run 2 (q := (20, [.ref 45, .int (x1 + 1), .int x2], [], hp nS M)) (by with_unfolding_all rfl)
set_option maxRecDepth 20000 in
theorem b_67_105 {d nS : Nat} {x1 : Int32} {zx2 : Value} {M : am_M} {Q : Option Value → am_H → Prop} : am_Wp d 67 105 [.ref 45, .int x1, zx2] [] (hp nS M) Q = Q none (hp nS M) := by
  exact eq_retV2 (e := (.return_, 1, 0, 0, 0)) (by with_unfolding_all rfl) rfl (by with_unfolding_all rfl)
-- LarkExchange$Row fewestTimes(I)I (68, (45, None))
set_option maxRecDepth 20000 in
theorem b_68_0 {d nS : Nat} {x1 : Int32} {M : am_M} {Q : Option Value → am_H → Prop} : am_Wp (d + 1) 68 0 [.ref 45, .int x1, .retAddr 0, .retAddr 0] [] (hp nS M) Q = am_Wp d 66 0 [.ref 45, .int x1] [] (hp nS M) (fun v h1 => am_Wp (d + 1) 68 5 [.ref 45, .int x1, .retAddr 0, .retAddr 0] (am_ans v []) h1 Q) := by
  refine (eq_run 2 (q := (2, [.ref 45, .int x1, .retAddr 0, .retAddr 0], [.int x1, .ref 45], hp nS M)) (by with_unfolding_all rfl)).trans ?_
  exact eq_call2 (e := (.invokevirtual 50, 3, 0, 66, 139)) (as := [.ref 45, .int x1]) (r := []) (n := 2) (m := 2) (by with_unfolding_all rfl) rfl (by decide) (by with_unfolding_all rfl) (by decide) (by with_unfolding_all rfl) ⟨fun _ => am_rec_ok (c := 9) (by with_unfolding_all rfl) (by decide +kernel), fun z => by simp at z⟩
set_option maxRecDepth 20000 in
theorem b_68_5 {d nS : Nat} {x1 s0 : Int32} {M : am_M} {Q : Option Value → am_H → Prop} : am_Wp d 68 5 [.ref 45, .int x1, .retAddr 0, .retAddr 0] [.int s0] (hp nS M) Q = am_Wp d 68 8 [.ref 45, .int x1, .int s0, .int 0] [] (hp nS M) Q := by
  exact eq_run 3 (q := (8, [.ref 45, .int x1, .int s0, .int 0], [], hp nS M)) (by with_unfolding_all rfl)
set_option maxRecDepth 20000 in
theorem b_68_8 {d nS : Nat} {x1 x2 x3 : Int32} {M : am_M} {Q : Option Value → am_H → Prop} : am_Wp d 68 8 [.ref 45, .int x1, .int x2, .int x3] [] (hp nS M) Q = if x1 ≤ x3 then am_Wp d 68 36 [.ref 45, .int x1, .int x2, .int x3] [] (hp nS M) Q else am_Wp d 68 13 [.ref 45, .int x1, .int x2, .int x3] [] (hp nS M) Q := by
  refine (eq_run 2 (q := (10, [.ref 45, .int x1, .int x2, .int x3], [.int x1, .int x3], hp nS M)) (by with_unfolding_all rfl)).trans ?_
  exact eq_cmp_ge (by with_unfolding_all rfl)
set_option maxRecDepth 20000 in
theorem b_68_13 {d nS : Nat} {x1 x2 x3 : Int32} {M : am_M} {Q : Option Value → am_H → Prop} : am_Wp d 68 13 [.ref 45, .int x1, .int x2, .int x3] [] (hp nS M) Q = if 5 ≤ x3 then am_Wp d 68 36 [.ref 45, .int x1, .int x2, .int x3] [] (hp nS M) Q else am_Wp d 68 18 [.ref 45, .int x1, .int x2, .int x3] [] (hp nS M) Q := by
  refine (eq_run 2 (q := (15, [.ref 45, .int x1, .int x2, .int x3], [.int 5, .int x3], hp nS M)) (by with_unfolding_all rfl)).trans ?_
  exact eq_cmp_ge (by with_unfolding_all rfl)
set_option maxRecDepth 20000 in
theorem b_68_18 {d nS : Nat} {x1 x2 x3 : Int32} {M : am_M} {Q : Option Value → am_H → Prop} (h1 : vp_in x3 6) : am_Wp d 68 18 [.ref 45, .int x1, .int x2, .int x3] [] (hp nS M) Q = if ¬ (M 48 x3.toNatClampNeg) = x2 then am_Wp d 68 30 [.ref 45, .int x1, .int x2, .int x3] [] (hp nS M) Q else am_Wp d 68 28 [.ref 45, .int x1, .int x2, .int x3] [] (hp nS M) Q := by
  refine (eq_run 3 (q := (23, [.ref 45, .int x1, .int x2, .int x3], [.int x3, .ref 48], hp nS M)) (by with_unfolding_all rfl)).trans ?_
  refine (eq_ald (e := (.iaload, 1, 0, 0, 0)) (by with_unfolding_all rfl) rfl (n := 6) (by with_unfolding_all rfl) h1).trans ?_
  refine (eq_run 1 (q := (25, [.ref 45, .int x1, .int x2, .int x3], [.int x2, .int (M 48 x3.toNatClampNeg)], hp nS M)) (by with_unfolding_all rfl)).trans ?_
  exact eq_cmp_ne (by with_unfolding_all rfl)
set_option maxRecDepth 20000 in
theorem b_68_28 {d nS : Nat} {x1 x2 x3 : Int32} {M : am_M} {Q : Option Value → am_H → Prop} : am_Wp d 68 28 [.ref 45, .int x1, .int x2, .int x3] [] (hp nS M) Q = Q (some (.int x3)) (hp nS M) := by
  refine (eq_run 1 (q := (29, [.ref 45, .int x1, .int x2, .int x3], [.int x3], hp nS M)) (by with_unfolding_all rfl)).trans ?_
  exact eq_retI2 (e := (.ireturn, 1, 0, 0, 0)) (t := .int) (by with_unfolding_all rfl) rfl (by with_unfolding_all rfl) rfl
set_option maxRecDepth 20000 in
theorem b_68_30 {d nS : Nat} {x1 x2 x3 : Int32} {M : am_M} {Q : Option Value → am_H → Prop} : am_Wp d 68 30 [.ref 45, .int x1, .int x2, .int x3] [] (hp nS M) Q = am_Wp d 68 8 [.ref 45, .int x1, .int x2, .int (x3 + 1)] [] (hp nS M) Q := by
  exact eq_run 2 (q := (8, [.ref 45, .int x1, .int x2, .int (x3 + 1)], [], hp nS M)) (by with_unfolding_all rfl)
set_option maxRecDepth 20000 in
theorem b_68_36 {d nS : Nat} {x1 x2 x3 : Int32} {M : am_M} {Q : Option Value → am_H → Prop} : am_Wp d 68 36 [.ref 45, .int x1, .int x2, .int x3] [] (hp nS M) Q = Q (some (.int x1)) (hp nS M) := by
  refine (eq_run 1 (q := (37, [.ref 45, .int x1, .int x2, .int x3], [.int x1], hp nS M)) (by with_unfolding_all rfl)).trans ?_
  exact eq_retI2 (e := (.ireturn, 1, 0, 0, 0)) (t := .int) (by with_unfolding_all rfl) rfl (by with_unfolding_all rfl) rfl
-- LarkExchange$Row dearest(I)I (69, (45, None))
set_option maxRecDepth 20000 in
theorem b_69_0 {d nS : Nat} {x1 : Int32} {M : am_M} {Q : Option Value → am_H → Prop} : am_Wp d 69 0 [.ref 45, .int x1, .retAddr 0, .retAddr 0, .retAddr 0, .retAddr 0] [] (hp nS M) Q = am_Wp d 69 7 [.ref 45, .int x1, .int (-1), .int 0, .int 0, .retAddr 0] [] (hp nS M) Q := by
  exact eq_run 6 (q := (7, [.ref 45, .int x1, .int (-1), .int 0, .int 0, .retAddr 0], [], hp nS M)) (by with_unfolding_all rfl)
set_option maxRecDepth 20000 in
theorem b_69_7 {d nS : Nat} {x1 x2 x3 x4 : Int32} {zx5 : Value} {M : am_M} {Q : Option Value → am_H → Prop} : am_Wp d 69 7 [.ref 45, .int x1, .int x2, .int x3, .int x4, zx5] [] (hp nS M) Q = if (M 45 1) < (x4 + x1) then am_Wp d 69 45 [.ref 45, .int x1, .int x2, .int x3, .int x4, zx5] [] (hp nS M) Q else am_Wp d 69 18 [.ref 45, .int x1, .int x2, .int x3, .int x4, zx5] [] (hp nS M) Q := by
  refine (eq_run 5 (q := (15, [.ref 45, .int x1, .int x2, .int x3, .int x4, zx5], [.int (M 45 1), .int (x4 + x1)], hp nS M)) (by with_unfolding_all rfl)).trans ?_
  exact eq_cmp_gt (by with_unfolding_all rfl)
set_option maxRecDepth 20000 in
theorem b_69_18 {d nS : Nat} {x1 x2 x3 x4 : Int32} {zx5 : Value} {M : am_M} {Q : Option Value → am_H → Prop} : am_Wp (d + 1) 69 18 [.ref 45, .int x1, .int x2, .int x3, .int x4, zx5] [] (hp nS M) Q = am_Wp d 70 0 [.ref 45, .int x4, .int x1, .retAddr 0, .retAddr 0] [] (hp nS M) (fun v h1 => am_Wp (d + 1) 69 25 [.ref 45, .int x1, .int x2, .int x3, .int x4, zx5] (am_ans v []) h1 Q) := by
  refine (eq_run 3 (q := (22, [.ref 45, .int x1, .int x2, .int x3, .int x4, zx5], [.int x1, .int x4, .ref 45], hp nS M)) (by with_unfolding_all rfl)).trans ?_
  exact eq_call2 (e := (.invokevirtual 54, 3, 0, 70, 140)) (as := [.ref 45, .int x4, .int x1]) (r := []) (n := 3) (m := 5) (by with_unfolding_all rfl) rfl (by decide) (by with_unfolding_all rfl) (by decide) (by with_unfolding_all rfl) ⟨fun _ => am_rec_ok (c := 9) (by with_unfolding_all rfl) (by decide +kernel), fun z => by simp at z⟩
set_option maxRecDepth 20000 in
theorem b_69_25 {d nS : Nat} {x1 x2 x3 x4 s0 : Int32} {zx5 : Value} {M : am_M} {Q : Option Value → am_H → Prop} : am_Wp d 69 25 [.ref 45, .int x1, .int x2, .int x3, .int x4, zx5] [.int s0] (hp nS M) Q = if s0 ≤ x3 then am_Wp d 69 39 [.ref 45, .int x1, .int x2, .int x3, .int x4, .int s0] [] (hp nS M) Q else am_Wp d 69 33 [.ref 45, .int x1, .int x2, .int x3, .int x4, .int s0] [] (hp nS M) Q := by
  refine (eq_run 3 (q := (30, [.ref 45, .int x1, .int x2, .int x3, .int x4, .int s0], [.int x3, .int s0], hp nS M)) (by with_unfolding_all rfl)).trans ?_
  exact eq_cmp_le (by with_unfolding_all rfl)
set_option maxRecDepth 20000 in
theorem b_69_33 {d nS : Nat} {x1 x2 x3 x4 x5 : Int32} {M : am_M} {Q : Option Value → am_H → Prop} : am_Wp d 69 33 [.ref 45, .int x1, .int x2, .int x3, .int x4, .int x5] [] (hp nS M) Q = am_Wp d 69 39 [.ref 45, .int x1, .int x4, .int x5, .int x4, .int x5] [] (hp nS M) Q := by
  exact eq_run 4 (q := (39, [.ref 45, .int x1, .int x4, .int x5, .int x4, .int x5], [], hp nS M)) (by with_unfolding_all rfl)
set_option maxRecDepth 20000 in
theorem b_69_39 {d nS : Nat} {x1 x2 x3 x4 x5 : Int32} {M : am_M} {Q : Option Value → am_H → Prop} : am_Wp d 69 39 [.ref 45, .int x1, .int x2, .int x3, .int x4, .int x5] [] (hp nS M) Q = am_Wp d 69 7 [.ref 45, .int x1, .int x2, .int x3, .int (x4 + 1), .int x5] [] (hp nS M) Q := by
  exact eq_run 2 (q := (7, [.ref 45, .int x1, .int x2, .int x3, .int (x4 + 1), .int x5], [], hp nS M)) (by with_unfolding_all rfl)
set_option maxRecDepth 20000 in
theorem b_69_45 {d nS : Nat} {x1 x2 x3 x4 : Int32} {zx5 : Value} {M : am_M} {Q : Option Value → am_H → Prop} : am_Wp d 69 45 [.ref 45, .int x1, .int x2, .int x3, .int x4, zx5] [] (hp nS M) Q = Q (some (.int x2)) (hp nS M) := by
  refine (eq_run 1 (q := (46, [.ref 45, .int x1, .int x2, .int x3, .int x4, zx5], [.int x2], hp nS M)) (by with_unfolding_all rfl)).trans ?_
  exact eq_retI2 (e := (.ireturn, 1, 0, 0, 0)) (t := .int) (by with_unfolding_all rfl) rfl (by with_unfolding_all rfl) rfl
-- LarkExchange$Row sumFrom(II)I (70, (45, None, None))
set_option maxRecDepth 20000 in
theorem b_70_0 {d nS : Nat} {x1 x2 : Int32} {M : am_M} {Q : Option Value → am_H → Prop} : am_Wp d 70 0 [.ref 45, .int x1, .int x2, .retAddr 0, .retAddr 0] [] (hp nS M) Q = am_Wp d 70 5 [.ref 45, .int x1, .int x2, .int 0, .int x1] [] (hp nS M) Q := by
  exact eq_run 4 (q := (5, [.ref 45, .int x1, .int x2, .int 0, .int x1], [], hp nS M)) (by with_unfolding_all rfl)
set_option maxRecDepth 20000 in
theorem b_70_5 {d nS : Nat} {x1 x2 x3 x4 : Int32} {M : am_M} {Q : Option Value → am_H → Prop} : am_Wp d 70 5 [.ref 45, .int x1, .int x2, .int x3, .int x4] [] (hp nS M) Q = if (x1 + x2) ≤ x4 then am_Wp d 70 38 [.ref 45, .int x1, .int x2, .int x3, .int x4] [] (hp nS M) Q else am_Wp d 70 13 [.ref 45, .int x1, .int x2, .int x3, .int x4] [] (hp nS M) Q := by
  refine (eq_run 4 (q := (10, [.ref 45, .int x1, .int x2, .int x3, .int x4], [.int (x1 + x2), .int x4], hp nS M)) (by with_unfolding_all rfl)).trans ?_
  exact eq_cmp_ge (by with_unfolding_all rfl)
set_option maxRecDepth 20000 in
theorem b_70_13 {d nS : Nat} {x1 x2 x3 x4 : Int32} {M : am_M} {Q : Option Value → am_H → Prop} : am_Wp d 70 13 [.ref 45, .int x1, .int x2, .int x3, .int x4] [] (hp nS M) Q = if (M 45 1) ≤ x4 then am_Wp d 70 38 [.ref 45, .int x1, .int x2, .int x3, .int x4] [] (hp nS M) Q else am_Wp d 70 22 [.ref 45, .int x1, .int x2, .int x3, .int x4] [] (hp nS M) Q := by
  refine (eq_run 3 (q := (19, [.ref 45, .int x1, .int x2, .int x3, .int x4], [.int (M 45 1), .int x4], hp nS M)) (by with_unfolding_all rfl)).trans ?_
  exact eq_cmp_ge (by with_unfolding_all rfl)
set_option maxRecDepth 20000 in
theorem b_70_22 {d nS : Nat} {x1 x2 x3 x4 : Int32} {M : am_M} {Q : Option Value → am_H → Prop} (h1 : vp_in x4 14) : am_Wp d 70 22 [.ref 45, .int x1, .int x2, .int x3, .int x4] [] (hp nS M) Q = am_Wp d 70 5 [.ref 45, .int x1, .int x2, .int (x3 + (M 46 x4.toNatClampNeg)), .int (x4 + 1)] [] (hp nS M) Q := by
  refine (eq_run 4 (q := (29, [.ref 45, .int x1, .int x2, .int x3, .int x4], [.int x4, .ref 46, .int x3], hp nS M)) (by with_unfolding_all rfl)).trans ?_
  refine (eq_ald (e := (.iaload, 1, 0, 0, 0)) (by with_unfolding_all rfl) rfl (n := 14) (by with_unfolding_all rfl) h1).trans ?_
  exact eq_run 4 (q := (5, [.ref 45, .int x1, .int x2, .int (x3 + (M 46 x4.toNatClampNeg)), .int (x4 + 1)], [], hp nS M)) (by with_unfolding_all rfl)
set_option maxRecDepth 20000 in
theorem b_70_38 {d nS : Nat} {x1 x2 x3 x4 : Int32} {M : am_M} {Q : Option Value → am_H → Prop} : am_Wp d 70 38 [.ref 45, .int x1, .int x2, .int x3, .int x4] [] (hp nS M) Q = Q (some (.int x3)) (hp nS M) := by
  refine (eq_run 1 (q := (39, [.ref 45, .int x1, .int x2, .int x3, .int x4], [.int x3], hp nS M)) (by with_unfolding_all rfl)).trans ?_
  exact eq_retI2 (e := (.ireturn, 1, 0, 0, 0)) (t := .int) (by with_unfolding_all rfl) rfl (by with_unfolding_all rfl) rfl
-- LarkExchange$Row midst()I (71, (45,))
set_option maxRecDepth 20000 in
theorem b_71_0 {d nS : Nat} {M : am_M} {Q : Option Value → am_H → Prop} : am_Wp d 71 0 [.ref 45, .retAddr 0, .retAddr 0, .retAddr 0] [] (hp nS M) Q = if ¬ (M 45 1) = 0 then am_Wp d 71 9 [.ref 45, .retAddr 0, .retAddr 0, .retAddr 0] [] (hp nS M) Q else am_Wp d 71 7 [.ref 45, .retAddr 0, .retAddr 0, .retAddr 0] [] (hp nS M) Q := by
  refine (eq_run 2 (q := (4, [.ref 45, .retAddr 0, .retAddr 0, .retAddr 0], [.int (M 45 1)], hp nS M)) (by with_unfolding_all rfl)).trans ?_
  exact eq_if_ne (by with_unfolding_all rfl)
set_option maxRecDepth 20000 in
theorem b_71_7 {d nS : Nat} {M : am_M} {Q : Option Value → am_H → Prop} : am_Wp d 71 7 [.ref 45, .retAddr 0, .retAddr 0, .retAddr 0] [] (hp nS M) Q = Q (some (.int (-1))) (hp nS M) := by
  refine (eq_run 1 (q := (8, [.ref 45, .retAddr 0, .retAddr 0, .retAddr 0], [.int (-1)], hp nS M)) (by with_unfolding_all rfl)).trans ?_
  exact eq_retI2 (e := (.ireturn, 1, 0, 0, 0)) (t := .int) (by with_unfolding_all rfl) rfl (by with_unfolding_all rfl) rfl
set_option maxRecDepth 20000 in
theorem b_71_9 {d nS : Nat} {M : am_M} {Q : Option Value → am_H → Prop} : am_Wp (d + 1) 71 9 [.ref 45, .retAddr 0, .retAddr 0, .retAddr 0] [] (hp nS M) Q = am_Wp d 131 0 [.ref 46, .ref 47] [] (hp nS M) (fun v h1 => am_Wp (d + 1) 71 20 [.ref 45, .retAddr 0, .retAddr 0, .retAddr 0] (am_ans v []) h1 Q) := by
  refine (eq_run 4 (q := (17, [.ref 45, .retAddr 0, .retAddr 0, .retAddr 0], [.ref 47, .ref 46], hp nS M)) (by with_unfolding_all rfl)).trans ?_
  exact eq_call2 (e := (.invokestatic 24, 3, 3, 131, 134)) (as := [.ref 46, .ref 47]) (r := []) (n := 2) (m := 2) (by with_unfolding_all rfl) rfl (by decide) (by with_unfolding_all rfl) (by decide) (by with_unfolding_all rfl) ⟨fun z => absurd z (by decide), fun z => by simp at z⟩
set_option maxRecDepth 20000 in
theorem b_71_20 {d nS : Nat} {M : am_M} {Q : Option Value → am_H → Prop} : am_Wp d 71 20 [.ref 45, .retAddr 0, .retAddr 0, .retAddr 0] [] (hp nS M) Q = am_Wp d 71 22 [.ref 45, .int 1, .retAddr 0, .retAddr 0] [] (hp nS M) Q := by
  exact eq_run 2 (q := (22, [.ref 45, .int 1, .retAddr 0, .retAddr 0], [], hp nS M)) (by with_unfolding_all rfl)
set_option maxRecDepth 20000 in
theorem b_71_22 {d nS : Nat} {x1 : Int32} {zx2 zx3 : Value} {M : am_M} {Q : Option Value → am_H → Prop} : am_Wp d 71 22 [.ref 45, .int x1, zx2, zx3] [] (hp nS M) Q = if (M 45 1) ≤ x1 then am_Wp d 71 88 [.ref 45, .int x1, zx2, zx3] [] (hp nS M) Q else am_Wp d 71 30 [.ref 45, .int x1, zx2, zx3] [] (hp nS M) Q := by
  refine (eq_run 3 (q := (27, [.ref 45, .int x1, zx2, zx3], [.int (M 45 1), .int x1], hp nS M)) (by with_unfolding_all rfl)).trans ?_
  exact eq_cmp_ge (by with_unfolding_all rfl)
set_option maxRecDepth 20000 in
theorem b_71_30 {d nS : Nat} {x1 : Int32} {zx2 zx3 : Value} {M : am_M} {Q : Option Value → am_H → Prop} (h1 : vp_in x1 14) : am_Wp d 71 30 [.ref 45, .int x1, zx2, zx3] [] (hp nS M) Q = am_Wp d 71 39 [.ref 45, .int x1, .int (M 47 x1.toNatClampNeg), .int x1] [] (hp nS M) Q := by
  refine (eq_run 3 (q := (35, [.ref 45, .int x1, zx2, zx3], [.int x1, .ref 47], hp nS M)) (by with_unfolding_all rfl)).trans ?_
  refine (eq_ald (e := (.iaload, 1, 0, 0, 0)) (by with_unfolding_all rfl) rfl (n := 14) (by with_unfolding_all rfl) h1).trans ?_
  exact eq_run 3 (q := (39, [.ref 45, .int x1, .int (M 47 x1.toNatClampNeg), .int x1], [], hp nS M)) (by with_unfolding_all rfl)
set_option maxRecDepth 20000 in
theorem b_71_39 {d nS : Nat} {x1 x2 x3 : Int32} {M : am_M} {Q : Option Value → am_H → Prop} : am_Wp d 71 39 [.ref 45, .int x1, .int x2, .int x3] [] (hp nS M) Q = if x3 ≤ 0 then am_Wp d 71 75 [.ref 45, .int x1, .int x2, .int x3] [] (hp nS M) Q else am_Wp d 71 43 [.ref 45, .int x1, .int x2, .int x3] [] (hp nS M) Q := by
  refine (eq_run 1 (q := (40, [.ref 45, .int x1, .int x2, .int x3], [.int x3], hp nS M)) (by with_unfolding_all rfl)).trans ?_
  exact eq_if_le (by with_unfolding_all rfl)
set_option maxRecDepth 20000 in
theorem b_71_43 {d nS : Nat} {x1 x2 x3 : Int32} {M : am_M} {Q : Option Value → am_H → Prop} (h1 : vp_in (x3 - 1) 14) : am_Wp d 71 43 [.ref 45, .int x1, .int x2, .int x3] [] (hp nS M) Q = if (M 47 (x3 - 1).toNatClampNeg) ≤ x2 then am_Wp d 71 75 [.ref 45, .int x1, .int x2, .int x3] [] (hp nS M) Q else am_Wp d 71 55 [.ref 45, .int x1, .int x2, .int x3] [] (hp nS M) Q := by
  refine (eq_run 5 (q := (50, [.ref 45, .int x1, .int x2, .int x3], [.int (x3 - 1), .ref 47], hp nS M)) (by with_unfolding_all rfl)).trans ?_
  refine (eq_ald (e := (.iaload, 1, 0, 0, 0)) (by with_unfolding_all rfl) rfl (n := 14) (by with_unfolding_all rfl) h1).trans ?_
  refine (eq_run 1 (q := (52, [.ref 45, .int x1, .int x2, .int x3], [.int x2, .int (M 47 (x3 - 1).toNatClampNeg)], hp nS M)) (by with_unfolding_all rfl)).trans ?_
  exact eq_cmp_le (by with_unfolding_all rfl)
set_option maxRecDepth 20000 in
theorem b_71_55 {d nS : Nat} {x1 x2 x3 : Int32} {M : am_M} {Q : Option Value → am_H → Prop} (h1 : vp_in (x3 - 1) 14) (h2 : vp_in x3 14) : am_Wp d 71 55 [.ref 45, .int x1, .int x2, .int x3] [] (hp nS M) Q = am_Wp d 71 39 [.ref 45, .int x1, .int x2, .int (x3 + (-1))] [] (hp nS (am_up M 47 x3.toNatClampNeg (M 47 (x3 - 1).toNatClampNeg))) Q := by
  refine (eq_run 8 (q := (67, [.ref 45, .int x1, .int x2, .int x3], [.int (x3 - 1), .ref 47, .int x3, .ref 47], hp nS M)) (by with_unfolding_all rfl)).trans ?_
  refine (eq_ald (e := (.iaload, 1, 0, 0, 0)) (by with_unfolding_all rfl) rfl (n := 14) (by with_unfolding_all rfl) h1).trans ?_
  refine (eq_ast (e := (.iastore, 1, 0, 0, 0)) (by with_unfolding_all rfl) rfl (n := 14) (by with_unfolding_all rfl) (by decide) h2).trans ?_
  exact eq_run 2 (q := (39, [.ref 45, .int x1, .int x2, .int (x3 + (-1))], [], hp nS (am_up M 47 x3.toNatClampNeg (M 47 (x3 - 1).toNatClampNeg)))) (by with_unfolding_all rfl)
set_option maxRecDepth 20000 in
theorem b_71_75 {d nS : Nat} {x1 x2 x3 : Int32} {M : am_M} {Q : Option Value → am_H → Prop} (h1 : vp_in x3 14) : am_Wp d 71 75 [.ref 45, .int x1, .int x2, .int x3] [] (hp nS M) Q = am_Wp d 71 22 [.ref 45, .int (x1 + 1), .int x2, .int x3] [] (hp nS (am_up M 47 x3.toNatClampNeg x2)) Q := by
  refine (eq_run 4 (q := (81, [.ref 45, .int x1, .int x2, .int x3], [.int x2, .int x3, .ref 47], hp nS M)) (by with_unfolding_all rfl)).trans ?_
  refine (eq_ast (e := (.iastore, 1, 0, 0, 0)) (by with_unfolding_all rfl) rfl (n := 14) (by with_unfolding_all rfl) (by decide) h1).trans ?_
  exact eq_run 2 (q := (22, [.ref 45, .int (x1 + 1), .int x2, .int x3], [], hp nS (am_up M 47 x3.toNatClampNeg x2))) (by with_unfolding_all rfl)
set_option maxRecDepth 20000 in
theorem b_71_88 {d nS : Nat} {x1 : Int32} {zx2 zx3 : Value} {M : am_M} {Q : Option Value → am_H → Prop} (h1 : vp_in (((M 45 1) - 1) / 2) 14) : am_Wp d 71 88 [.ref 45, .int x1, zx2, zx3] [] (hp nS M) Q = Q (some (.int (M 47 (((M 45 1) - 1) / 2).toNatClampNeg))) (hp nS M) := by
  refine (eq_run 8 (q := (100, [.ref 45, .int x1, zx2, zx3], [.int (((M 45 1) - 1) / 2), .ref 47], hp nS M)) (by with_unfolding_all rfl)).trans ?_
  refine (eq_ald (e := (.iaload, 1, 0, 0, 0)) (by with_unfolding_all rfl) rfl (n := 14) (by with_unfolding_all rfl) h1).trans ?_
  exact eq_retI2 (e := (.ireturn, 1, 0, 0, 0)) (t := .int) (by with_unfolding_all rfl) rfl (by with_unfolding_all rfl) rfl
-- LarkExchange$Row couples()I (72, (45,))
set_option maxRecDepth 20000 in
theorem b_72_0 {d nS : Nat} {M : am_M} {Q : Option Value → am_H → Prop} : am_Wp d 72 0 [.ref 45, .retAddr 0, .retAddr 0, .retAddr 0] [] (hp nS M) Q = am_Wp d 72 4 [.ref 45, .int 0, .int 0, .retAddr 0] [] (hp nS M) Q := by
  exact eq_run 4 (q := (4, [.ref 45, .int 0, .int 0, .retAddr 0], [], hp nS M)) (by with_unfolding_all rfl)
set_option maxRecDepth 20000 in
theorem b_72_4 {d nS : Nat} {x1 x2 : Int32} {zx3 : Value} {M : am_M} {Q : Option Value → am_H → Prop} : am_Wp d 72 4 [.ref 45, .int x1, .int x2, zx3] [] (hp nS M) Q = if (M 45 1) ≤ x2 then am_Wp d 72 54 [.ref 45, .int x1, .int x2, zx3] [] (hp nS M) Q else am_Wp d 72 12 [.ref 45, .int x1, .int x2, zx3] [] (hp nS M) Q := by
  refine (eq_run 3 (q := (9, [.ref 45, .int x1, .int x2, zx3], [.int (M 45 1), .int x2], hp nS M)) (by with_unfolding_all rfl)).trans ?_
  exact eq_cmp_ge (by with_unfolding_all rfl)
set_option maxRecDepth 20000 in
theorem b_72_12 {d nS : Nat} {x1 x2 : Int32} {zx3 : Value} {M : am_M} {Q : Option Value → am_H → Prop} : am_Wp d 72 12 [.ref 45, .int x1, .int x2, zx3] [] (hp nS M) Q = am_Wp d 72 16 [.ref 45, .int x1, .int x2, .int (x2 + 1)] [] (hp nS M) Q := by
  exact eq_run 4 (q := (16, [.ref 45, .int x1, .int x2, .int (x2 + 1)], [], hp nS M)) (by with_unfolding_all rfl)
set_option maxRecDepth 20000 in
theorem b_72_16 {d nS : Nat} {x1 x2 x3 : Int32} {M : am_M} {Q : Option Value → am_H → Prop} : am_Wp d 72 16 [.ref 45, .int x1, .int x2, .int x3] [] (hp nS M) Q = if (M 45 1) ≤ x3 then am_Wp d 72 48 [.ref 45, .int x1, .int x2, .int x3] [] (hp nS M) Q else am_Wp d 72 24 [.ref 45, .int x1, .int x2, .int x3] [] (hp nS M) Q := by
  refine (eq_run 3 (q := (21, [.ref 45, .int x1, .int x2, .int x3], [.int (M 45 1), .int x3], hp nS M)) (by with_unfolding_all rfl)).trans ?_
  exact eq_cmp_ge (by with_unfolding_all rfl)
set_option maxRecDepth 20000 in
theorem b_72_24 {d nS : Nat} {x1 x2 x3 : Int32} {M : am_M} {Q : Option Value → am_H → Prop} (h1 : vp_in x2 14) (h2 : vp_in x3 14) : am_Wp d 72 24 [.ref 45, .int x1, .int x2, .int x3] [] (hp nS M) Q = if (M 46 x2.toNatClampNeg) ≤ (M 46 x3.toNatClampNeg) then am_Wp d 72 42 [.ref 45, .int x1, .int x2, .int x3] [] (hp nS M) Q else am_Wp d 72 39 [.ref 45, .int x1, .int x2, .int x3] [] (hp nS M) Q := by
  refine (eq_run 3 (q := (29, [.ref 45, .int x1, .int x2, .int x3], [.int x2, .ref 46], hp nS M)) (by with_unfolding_all rfl)).trans ?_
  refine (eq_ald (e := (.iaload, 1, 0, 0, 0)) (by with_unfolding_all rfl) rfl (n := 14) (by with_unfolding_all rfl) h1).trans ?_
  refine (eq_run 3 (q := (35, [.ref 45, .int x1, .int x2, .int x3], [.int x3, .ref 46, .int (M 46 x2.toNatClampNeg)], hp nS M)) (by with_unfolding_all rfl)).trans ?_
  refine (eq_ald (e := (.iaload, 1, 0, 0, 0)) (by with_unfolding_all rfl) rfl (n := 14) (by with_unfolding_all rfl) h2).trans ?_
  exact eq_cmp_le (by with_unfolding_all rfl)
set_option maxRecDepth 20000 in
theorem b_72_39 {d nS : Nat} {x1 x2 x3 : Int32} {M : am_M} {Q : Option Value → am_H → Prop} : am_Wp d 72 39 [.ref 45, .int x1, .int x2, .int x3] [] (hp nS M) Q = am_Wp d 72 42 [.ref 45, .int (x1 + 1), .int x2, .int x3] [] (hp nS M) Q := by
  exact eq_run 1 (q := (42, [.ref 45, .int (x1 + 1), .int x2, .int x3], [], hp nS M)) (by with_unfolding_all rfl)
set_option maxRecDepth 20000 in
theorem b_72_42 {d nS : Nat} {x1 x2 x3 : Int32} {M : am_M} {Q : Option Value → am_H → Prop} : am_Wp d 72 42 [.ref 45, .int x1, .int x2, .int x3] [] (hp nS M) Q = am_Wp d 72 16 [.ref 45, .int x1, .int x2, .int (x3 + 1)] [] (hp nS M) Q := by
  exact eq_run 2 (q := (16, [.ref 45, .int x1, .int x2, .int (x3 + 1)], [], hp nS M)) (by with_unfolding_all rfl)
set_option maxRecDepth 20000 in
theorem b_72_48 {d nS : Nat} {x1 x2 x3 : Int32} {M : am_M} {Q : Option Value → am_H → Prop} : am_Wp d 72 48 [.ref 45, .int x1, .int x2, .int x3] [] (hp nS M) Q = am_Wp d 72 4 [.ref 45, .int x1, .int (x2 + 1), .int x3] [] (hp nS M) Q := by
  exact eq_run 2 (q := (4, [.ref 45, .int x1, .int (x2 + 1), .int x3], [], hp nS M)) (by with_unfolding_all rfl)
set_option maxRecDepth 20000 in
theorem b_72_54 {d nS : Nat} {x1 x2 : Int32} {zx3 : Value} {M : am_M} {Q : Option Value → am_H → Prop} : am_Wp d 72 54 [.ref 45, .int x1, .int x2, zx3] [] (hp nS M) Q = Q (some (.int x1)) (hp nS M) := by
  refine (eq_run 1 (q := (55, [.ref 45, .int x1, .int x2, zx3], [.int x1], hp nS M)) (by with_unfolding_all rfl)).trans ?_
  exact eq_retI2 (e := (.ireturn, 1, 0, 0, 0)) (t := .int) (by with_unfolding_all rfl) rfl (by with_unfolding_all rfl) rfl
-- LarkExchange$Row records()I (73, (45,))
set_option maxRecDepth 20000 in
theorem b_73_0 {d nS : Nat} {M : am_M} {Q : Option Value → am_H → Prop} : am_Wp d 73 0 [.ref 45, .retAddr 0, .retAddr 0, .retAddr 0] [] (hp nS M) Q = am_Wp d 73 6 [.ref 45, .int 0, .int 0, .int 0] [] (hp nS M) Q := by
  exact eq_run 6 (q := (6, [.ref 45, .int 0, .int 0, .int 0], [], hp nS M)) (by with_unfolding_all rfl)
set_option maxRecDepth 20000 in
theorem b_73_6 {d nS : Nat} {x1 x2 x3 : Int32} {M : am_M} {Q : Option Value → am_H → Prop} : am_Wp d 73 6 [.ref 45, .int x1, .int x2, .int x3] [] (hp nS M) Q = if (M 45 1) ≤ x3 then am_Wp d 73 40 [.ref 45, .int x1, .int x2, .int x3] [] (hp nS M) Q else am_Wp d 73 14 [.ref 45, .int x1, .int x2, .int x3] [] (hp nS M) Q := by
  refine (eq_run 3 (q := (11, [.ref 45, .int x1, .int x2, .int x3], [.int (M 45 1), .int x3], hp nS M)) (by with_unfolding_all rfl)).trans ?_
  exact eq_cmp_ge (by with_unfolding_all rfl)
set_option maxRecDepth 20000 in
theorem b_73_14 {d nS : Nat} {x1 x2 x3 : Int32} {M : am_M} {Q : Option Value → am_H → Prop} (h1 : vp_in x3 14) : am_Wp d 73 14 [.ref 45, .int x1, .int x2, .int x3] [] (hp nS M) Q = if (M 46 x3.toNatClampNeg) ≤ x2 then am_Wp d 73 34 [.ref 45, .int x1, .int x2, .int x3] [] (hp nS M) Q else am_Wp d 73 24 [.ref 45, .int x1, .int x2, .int x3] [] (hp nS M) Q := by
  refine (eq_run 3 (q := (19, [.ref 45, .int x1, .int x2, .int x3], [.int x3, .ref 46], hp nS M)) (by with_unfolding_all rfl)).trans ?_
  refine (eq_ald (e := (.iaload, 1, 0, 0, 0)) (by with_unfolding_all rfl) rfl (n := 14) (by with_unfolding_all rfl) h1).trans ?_
  refine (eq_run 1 (q := (21, [.ref 45, .int x1, .int x2, .int x3], [.int x2, .int (M 46 x3.toNatClampNeg)], hp nS M)) (by with_unfolding_all rfl)).trans ?_
  exact eq_cmp_le (by with_unfolding_all rfl)
set_option maxRecDepth 20000 in
theorem b_73_24 {d nS : Nat} {x1 x2 x3 : Int32} {M : am_M} {Q : Option Value → am_H → Prop} (h1 : vp_in x3 14) : am_Wp d 73 24 [.ref 45, .int x1, .int x2, .int x3] [] (hp nS M) Q = am_Wp d 73 34 [.ref 45, .int (x1 + 1), .int (M 46 x3.toNatClampNeg), .int x3] [] (hp nS M) Q := by
  refine (eq_run 3 (q := (29, [.ref 45, .int x1, .int x2, .int x3], [.int x3, .ref 46], hp nS M)) (by with_unfolding_all rfl)).trans ?_
  refine (eq_ald (e := (.iaload, 1, 0, 0, 0)) (by with_unfolding_all rfl) rfl (n := 14) (by with_unfolding_all rfl) h1).trans ?_
  exact eq_run 2 (q := (34, [.ref 45, .int (x1 + 1), .int (M 46 x3.toNatClampNeg), .int x3], [], hp nS M)) (by with_unfolding_all rfl)
set_option maxRecDepth 20000 in
theorem b_73_34 {d nS : Nat} {x1 x2 x3 : Int32} {M : am_M} {Q : Option Value → am_H → Prop} : am_Wp d 73 34 [.ref 45, .int x1, .int x2, .int x3] [] (hp nS M) Q = am_Wp d 73 6 [.ref 45, .int x1, .int x2, .int (x3 + 1)] [] (hp nS M) Q := by
  exact eq_run 2 (q := (6, [.ref 45, .int x1, .int x2, .int (x3 + 1)], [], hp nS M)) (by with_unfolding_all rfl)
set_option maxRecDepth 20000 in
theorem b_73_40 {d nS : Nat} {x1 x2 x3 : Int32} {M : am_M} {Q : Option Value → am_H → Prop} : am_Wp d 73 40 [.ref 45, .int x1, .int x2, .int x3] [] (hp nS M) Q = Q (some (.int x1)) (hp nS M) := by
  refine (eq_run 1 (q := (41, [.ref 45, .int x1, .int x2, .int x3], [.int x1], hp nS M)) (by with_unfolding_all rfl)).trans ?_
  exact eq_retI2 (e := (.ireturn, 1, 0, 0, 0)) (t := .int) (by with_unfolding_all rfl) rfl (by with_unfolding_all rfl) rfl
-- LarkExchange$Row hats()I (74, (45,))
set_option maxRecDepth 20000 in
theorem b_74_0 {d nS : Nat} {M : am_M} {Q : Option Value → am_H → Prop} : am_Wp d 74 0 [.ref 45, .retAddr 0, .retAddr 0] [] (hp nS M) Q = am_Wp d 74 4 [.ref 45, .int 0, .int 1] [] (hp nS M) Q := by
  exact eq_run 4 (q := (4, [.ref 45, .int 0, .int 1], [], hp nS M)) (by with_unfolding_all rfl)
set_option maxRecDepth 20000 in
theorem b_74_4 {d nS : Nat} {x1 x2 : Int32} {M : am_M} {Q : Option Value → am_H → Prop} : am_Wp d 74 4 [.ref 45, .int x1, .int x2] [] (hp nS M) Q = if (M 45 1) ≤ x2 then am_Wp d 74 39 [.ref 45, .int x1, .int x2] [] (hp nS M) Q else am_Wp d 74 12 [.ref 45, .int x1, .int x2] [] (hp nS M) Q := by
  refine (eq_run 3 (q := (9, [.ref 45, .int x1, .int x2], [.int (M 45 1), .int x2], hp nS M)) (by with_unfolding_all rfl)).trans ?_
  exact eq_cmp_ge (by with_unfolding_all rfl)
set_option maxRecDepth 20000 in
theorem b_74_12 {d nS : Nat} {x1 x2 : Int32} {M : am_M} {Q : Option Value → am_H → Prop} (h1 : vp_in x2 14) (h2 : vp_in (x2 - 1) 14) : am_Wp (d + 1) 74 12 [.ref 45, .int x1, .int x2] [] (hp nS M) Q = am_Wp d 298 0 [.int ((M 46 x2.toNatClampNeg) - (M 46 (x2 - 1).toNatClampNeg))] [] (hp nS M) (fun v h1 => am_Wp (d + 1) 74 31 [.ref 45, .int x1, .int x2] (am_ans v [.int x1]) h1 Q) := by
  refine (eq_run 4 (q := (18, [.ref 45, .int x1, .int x2], [.int x2, .ref 46, .int x1], hp nS M)) (by with_unfolding_all rfl)).trans ?_
  refine (eq_ald (e := (.iaload, 1, 0, 0, 0)) (by with_unfolding_all rfl) rfl (n := 14) (by with_unfolding_all rfl) h1).trans ?_
  refine (eq_run 5 (q := (26, [.ref 45, .int x1, .int x2], [.int (x2 - 1), .ref 46, .int (M 46 x2.toNatClampNeg), .int x1], hp nS M)) (by with_unfolding_all rfl)).trans ?_
  refine (eq_ald (e := (.iaload, 1, 0, 0, 0)) (by with_unfolding_all rfl) rfl (n := 14) (by with_unfolding_all rfl) h2).trans ?_
  refine (eq_run 1 (q := (28, [.ref 45, .int x1, .int x2], [.int ((M 46 x2.toNatClampNeg) - (M 46 (x2 - 1).toNatClampNeg)), .int x1], hp nS M)) (by with_unfolding_all rfl)).trans ?_
  exact eq_call2 (e := (.invokestatic 57, 3, 1, 298, 141)) (as := [.int ((M 46 x2.toNatClampNeg) - (M 46 (x2 - 1).toNatClampNeg))]) (r := [.int x1]) (n := 1) (m := 1) (by with_unfolding_all rfl) rfl (by decide) (by with_unfolding_all rfl) (by decide) (by with_unfolding_all rfl) ⟨fun z => absurd z (by decide), fun z => by simp at z⟩
set_option maxRecDepth 20000 in
theorem b_74_31 {d nS : Nat} {x1 x2 s0 s1 : Int32} {M : am_M} {Q : Option Value → am_H → Prop} : am_Wp d 74 31 [.ref 45, .int x1, .int x2] [.int s1, .int s0] (hp nS M) Q = am_Wp d 74 4 [.ref 45, .int (s0 + s1), .int (x2 + 1)] [] (hp nS M) Q := by
  exact eq_run 4 (q := (4, [.ref 45, .int (s0 + s1), .int (x2 + 1)], [], hp nS M)) (by with_unfolding_all rfl)
set_option maxRecDepth 20000 in
theorem b_74_39 {d nS : Nat} {x1 x2 : Int32} {M : am_M} {Q : Option Value → am_H → Prop} : am_Wp d 74 39 [.ref 45, .int x1, .int x2] [] (hp nS M) Q = Q (some (.int x1)) (hp nS M) := by
  refine (eq_run 1 (q := (40, [.ref 45, .int x1, .int x2], [.int x1], hp nS M)) (by with_unfolding_all rfl)).trans ?_
  exact eq_retI2 (e := (.ireturn, 1, 0, 0, 0)) (t := .int) (by with_unfolding_all rfl) rfl (by with_unfolding_all rfl) rfl
-- LarkExchange$Row longestRun()I (75, (45,))
set_option maxRecDepth 20000 in
theorem b_75_0 {d nS : Nat} {M : am_M} {Q : Option Value → am_H → Prop} : am_Wp d 75 0 [.ref 45, .retAddr 0, .retAddr 0, .retAddr 0] [] (hp nS M) Q = am_Wp d 75 6 [.ref 45, .int 0, .int 0, .int 0] [] (hp nS M) Q := by
  exact eq_run 6 (q := (6, [.ref 45, .int 0, .int 0, .int 0], [], hp nS M)) (by with_unfolding_all rfl)
set_option maxRecDepth 20000 in
theorem b_75_6 {d nS : Nat} {x1 x2 x3 : Int32} {M : am_M} {Q : Option Value → am_H → Prop} : am_Wp d 75 6 [.ref 45, .int x1, .int x2, .int x3] [] (hp nS M) Q = if (M 45 1) ≤ x3 then am_Wp d 75 55 [.ref 45, .int x1, .int x2, .int x3] [] (hp nS M) Q else am_Wp d 75 14 [.ref 45, .int x1, .int x2, .int x3] [] (hp nS M) Q := by
  refine (eq_run 3 (q := (11, [.ref 45, .int x1, .int x2, .int x3], [.int (M 45 1), .int x3], hp nS M)) (by with_unfolding_all rfl)).trans ?_
  exact eq_cmp_ge (by with_unfolding_all rfl)
set_option maxRecDepth 20000 in
theorem b_75_14 {d nS : Nat} {x1 x2 x3 : Int32} {M : am_M} {Q : Option Value → am_H → Prop} : am_Wp d 75 14 [.ref 45, .int x1, .int x2, .int x3] [] (hp nS M) Q = if x3 ≤ 0 then am_Wp d 75 41 [.ref 45, .int x1, .int x2, .int x3] [] (hp nS M) Q else am_Wp d 75 18 [.ref 45, .int x1, .int x2, .int x3] [] (hp nS M) Q := by
  refine (eq_run 1 (q := (15, [.ref 45, .int x1, .int x2, .int x3], [.int x3], hp nS M)) (by with_unfolding_all rfl)).trans ?_
  exact eq_if_le (by with_unfolding_all rfl)
set_option maxRecDepth 20000 in
theorem b_75_18 {d nS : Nat} {x1 x2 x3 : Int32} {M : am_M} {Q : Option Value → am_H → Prop} (h1 : vp_in x3 14) (h2 : vp_in (x3 - 1) 14) : am_Wp d 75 18 [.ref 45, .int x1, .int x2, .int x3] [] (hp nS M) Q = if (M 46 x3.toNatClampNeg) ≤ (M 46 (x3 - 1).toNatClampNeg) then am_Wp d 75 41 [.ref 45, .int x1, .int x2, .int x3] [] (hp nS M) Q else am_Wp d 75 35 [.ref 45, .int x1, .int x2, .int x3] [] (hp nS M) Q := by
  refine (eq_run 3 (q := (23, [.ref 45, .int x1, .int x2, .int x3], [.int x3, .ref 46], hp nS M)) (by with_unfolding_all rfl)).trans ?_
  refine (eq_ald (e := (.iaload, 1, 0, 0, 0)) (by with_unfolding_all rfl) rfl (n := 14) (by with_unfolding_all rfl) h1).trans ?_
  refine (eq_run 5 (q := (31, [.ref 45, .int x1, .int x2, .int x3], [.int (x3 - 1), .ref 46, .int (M 46 x3.toNatClampNeg)], hp nS M)) (by with_unfolding_all rfl)).trans ?_
  refine (eq_ald (e := (.iaload, 1, 0, 0, 0)) (by with_unfolding_all rfl) rfl (n := 14) (by with_unfolding_all rfl) h2).trans ?_
  exact eq_cmp_le (by with_unfolding_all rfl)
set_option maxRecDepth 20000 in
theorem b_75_35 {d nS : Nat} {x1 x2 x3 : Int32} {M : am_M} {Q : Option Value → am_H → Prop} : am_Wp d 75 35 [.ref 45, .int x1, .int x2, .int x3] [] (hp nS M) Q = am_Wp d 75 42 [.ref 45, .int x1, .int x2, .int x3] [.int (x2 + 1)] (hp nS M) Q := by
  exact eq_run 4 (q := (42, [.ref 45, .int x1, .int x2, .int x3], [.int (x2 + 1)], hp nS M)) (by with_unfolding_all rfl)
set_option maxRecDepth 20000 in
theorem b_75_41 {d nS : Nat} {x1 x2 x3 : Int32} {M : am_M} {Q : Option Value → am_H → Prop} : am_Wp d 75 41 [.ref 45, .int x1, .int x2, .int x3] [] (hp nS M) Q = am_Wp d 75 42 [.ref 45, .int x1, .int x2, .int x3] [.int 1] (hp nS M) Q := by
  exact eq_run 1 (q := (42, [.ref 45, .int x1, .int x2, .int x3], [.int 1], hp nS M)) (by with_unfolding_all rfl)
set_option maxRecDepth 20000 in
theorem b_75_42 {d nS : Nat} {x1 x2 x3 s0 : Int32} {M : am_M} {Q : Option Value → am_H → Prop} : am_Wp (d + 1) 75 42 [.ref 45, .int x1, .int x2, .int x3] [.int s0] (hp nS M) Q = am_Wp d 297 0 [.int x1, .int s0] [] (hp nS M) (fun v h1 => am_Wp (d + 1) 75 48 [.ref 45, .int x1, .int s0, .int x3] (am_ans v []) h1 Q) := by
  refine (eq_run 3 (q := (45, [.ref 45, .int x1, .int s0, .int x3], [.int s0, .int x1], hp nS M)) (by with_unfolding_all rfl)).trans ?_
  exact eq_call2 (e := (.invokestatic 38, 3, 1, 297, 136)) (as := [.int x1, .int s0]) (r := []) (n := 2) (m := 2) (by with_unfolding_all rfl) rfl (by decide) (by with_unfolding_all rfl) (by decide) (by with_unfolding_all rfl) ⟨fun z => absurd z (by decide), fun z => by simp at z⟩
set_option maxRecDepth 20000 in
theorem b_75_48 {d nS : Nat} {x1 x2 x3 s0 : Int32} {M : am_M} {Q : Option Value → am_H → Prop} : am_Wp d 75 48 [.ref 45, .int x1, .int x2, .int x3] [.int s0] (hp nS M) Q = am_Wp d 75 6 [.ref 45, .int s0, .int x2, .int (x3 + 1)] [] (hp nS M) Q := by
  exact eq_run 3 (q := (6, [.ref 45, .int s0, .int x2, .int (x3 + 1)], [], hp nS M)) (by with_unfolding_all rfl)
set_option maxRecDepth 20000 in
theorem b_75_55 {d nS : Nat} {x1 x2 x3 : Int32} {M : am_M} {Q : Option Value → am_H → Prop} : am_Wp d 75 55 [.ref 45, .int x1, .int x2, .int x3] [] (hp nS M) Q = Q (some (.int x1)) (hp nS M) := by
  refine (eq_run 1 (q := (56, [.ref 45, .int x1, .int x2, .int x3], [.int x1], hp nS M)) (by with_unfolding_all rfl)).trans ?_
  exact eq_retI2 (e := (.ireturn, 1, 0, 0, 0)) (t := .int) (by with_unfolding_all rfl) rfl (by with_unfolding_all rfl) rfl
-- LarkExchange$Row copyFrom(LLarkExchange$Row;)V (76, (87, 45))
set_option maxRecDepth 20000 in
theorem b_76_0 {d nS : Nat} {M : am_M} {Q : Option Value → am_H → Prop} : am_Wp (d + 1) 76 0 [.ref 87, .ref 45] [] (hp nS M) Q = am_Wp d 131 0 [.ref 46, .ref 88] [] (hp nS M) (fun v h1 => am_Wp (d + 1) 76 11 [.ref 87, .ref 45] (am_ans v []) h1 Q) := by
  refine (eq_run 4 (q := (8, [.ref 87, .ref 45], [.ref 88, .ref 46], hp nS M)) (by with_unfolding_all rfl)).trans ?_
  exact eq_call2 (e := (.invokestatic 24, 3, 3, 131, 134)) (as := [.ref 46, .ref 88]) (r := []) (n := 2) (m := 2) (by with_unfolding_all rfl) rfl (by decide) (by with_unfolding_all rfl) (by decide) (by with_unfolding_all rfl) ⟨fun z => absurd z (by decide), fun z => by simp at z⟩
set_option maxRecDepth 20000 in
theorem b_76_11 {d nS : Nat} {M : am_M} {Q : Option Value → am_H → Prop} : am_Wp d 76 11 [.ref 87, .ref 45] [] (hp nS M) Q = Q none (hp nS (am_up M 87 1 (M 45 1))) := by
  refine (eq_run 4 (q := (19, [.ref 87, .ref 45], [], hp nS (am_up M 87 1 (M 45 1)))) (by with_unfolding_all rfl)).trans ?_
  exact eq_retV2 (e := (.return_, 1, 0, 0, 0)) (by with_unfolding_all rfl) rfl (by with_unfolding_all rfl)
-- LarkExchange$Row copyFrom(LLarkExchange$Row;)V (76, (45, 87))
set_option maxRecDepth 20000 in
theorem b_76i1_0 {d nS : Nat} {M : am_M} {Q : Option Value → am_H → Prop} : am_Wp (d + 1) 76 0 [.ref 45, .ref 87] [] (hp nS M) Q = am_Wp d 131 0 [.ref 88, .ref 46] [] (hp nS M) (fun v h1 => am_Wp (d + 1) 76 11 [.ref 45, .ref 87] (am_ans v []) h1 Q) := by
  refine (eq_run 4 (q := (8, [.ref 45, .ref 87], [.ref 46, .ref 88], hp nS M)) (by with_unfolding_all rfl)).trans ?_
  exact eq_call2 (e := (.invokestatic 24, 3, 3, 131, 134)) (as := [.ref 88, .ref 46]) (r := []) (n := 2) (m := 2) (by with_unfolding_all rfl) rfl (by decide) (by with_unfolding_all rfl) (by decide) (by with_unfolding_all rfl) ⟨fun z => absurd z (by decide), fun z => by simp at z⟩
set_option maxRecDepth 20000 in
theorem b_76i1_11 {d nS : Nat} {M : am_M} {Q : Option Value → am_H → Prop} : am_Wp d 76 11 [.ref 45, .ref 87] [] (hp nS M) Q = Q none (hp nS (am_up M 45 1 (M 87 1))) := by
  refine (eq_run 4 (q := (19, [.ref 45, .ref 87], [], hp nS (am_up M 45 1 (M 87 1)))) (by with_unfolding_all rfl)).trans ?_
  exact eq_retV2 (e := (.return_, 1, 0, 0, 0)) (by with_unfolding_all rfl) rfl (by with_unfolding_all rfl)
-- LarkExchange$Sums partOf(III)I (78, (None, None, None))
set_option maxRecDepth 20000 in
theorem b_78_0 {d nS : Nat} {x0 x1 x2 : Int32} {M : am_M} {Q : Option Value → am_H → Prop} : am_Wp d 78 0 [.int x0, .int x1, .int x2, .retAddr 0, .retAddr 0, .retAddr 0, .retAddr 0, .retAddr 0, .retAddr 0, .retAddr 0] [] (hp nS M) Q = am_Wp d 78 10 [.int x0, .int x1, .int x2, .long x0.toInt64, .retAddr 0, .long x1.toInt64, .retAddr 0, .int 0, .retAddr 0, .retAddr 0] [] (hp nS M) Q := by
  exact eq_run 8 (q := (10, [.int x0, .int x1, .int x2, .long x0.toInt64, .retAddr 0, .long x1.toInt64, .retAddr 0, .int 0, .retAddr 0, .retAddr 0], [], hp nS M)) (by with_unfolding_all rfl)
set_option maxRecDepth 20000 in
theorem b_78_10 {d nS : Nat} {x0 x1 x2 x7 : Int32} {zx8 : Value} {x3 x5 : Int64} {M : am_M} {Q : Option Value → am_H → Prop} : am_Wp d 78 10 [.int x0, .int x1, .int x2, .long x3, .retAddr 0, .long x5, .retAddr 0, .int x7, zx8, .retAddr 0] [] (hp nS M) Q = if (lg_cmp x3 0) ≤ 0 then am_Wp d 78 71 [.int x0, .int x1, .int x2, .long x3, .retAddr 0, .long x5, .retAddr 0, .int x7, zx8, .retAddr 0] [] (hp nS M) Q else am_Wp d 78 16 [.int x0, .int x1, .int x2, .long x3, .retAddr 0, .long x5, .retAddr 0, .int x7, zx8, .retAddr 0] [] (hp nS M) Q := by
  refine (eq_run 3 (q := (13, [.int x0, .int x1, .int x2, .long x3, .retAddr 0, .long x5, .retAddr 0, .int x7, zx8, .retAddr 0], [.int (lg_cmp x3 0)], hp nS M)) (by with_unfolding_all rfl)).trans ?_
  exact eq_if_le (by with_unfolding_all rfl)
set_option maxRecDepth 20000 in
theorem b_78_16 {d nS : Nat} {x0 x1 x2 x7 : Int32} {zx8 : Value} {x3 x5 : Int64} {M : am_M} {Q : Option Value → am_H → Prop} : am_Wp d 78 16 [.int x0, .int x1, .int x2, .long x3, .retAddr 0, .long x5, .retAddr 0, .int x7, zx8, .retAddr 0] [] (hp nS M) Q = if (lg_cmp x5 0) ≤ 0 then am_Wp d 78 71 [.int x0, .int x1, .int x2, .long x3, .retAddr 0, .long x5, .retAddr 0, .int x7, zx8, .retAddr 0] [] (hp nS M) Q else am_Wp d 78 23 [.int x0, .int x1, .int x2, .long x3, .retAddr 0, .long x5, .retAddr 0, .int x7, zx8, .retAddr 0] [] (hp nS M) Q := by
  refine (eq_run 3 (q := (20, [.int x0, .int x1, .int x2, .long x3, .retAddr 0, .long x5, .retAddr 0, .int x7, zx8, .retAddr 0], [.int (lg_cmp x5 0)], hp nS M)) (by with_unfolding_all rfl)).trans ?_
  exact eq_if_le (by with_unfolding_all rfl)
set_option maxRecDepth 20000 in
theorem b_78_23 {d nS : Nat} {x0 x1 x2 x7 : Int32} {zx8 : Value} {x3 x5 : Int64} {M : am_M} {Q : Option Value → am_H → Prop} : am_Wp d 78 23 [.int x0, .int x1, .int x2, .long x3, .retAddr 0, .long x5, .retAddr 0, .int x7, zx8, .retAddr 0] [] (hp nS M) Q = if 64 ≤ x7 then am_Wp d 78 71 [.int x0, .int x1, .int x2, .long x3, .retAddr 0, .long x5, .retAddr 0, .int x7, zx8, .retAddr 0] [] (hp nS M) Q else am_Wp d 78 30 [.int x0, .int x1, .int x2, .long x3, .retAddr 0, .long x5, .retAddr 0, .int x7, zx8, .retAddr 0] [] (hp nS M) Q := by
  refine (eq_run 2 (q := (27, [.int x0, .int x1, .int x2, .long x3, .retAddr 0, .long x5, .retAddr 0, .int x7, zx8, .retAddr 0], [.int 64, .int x7], hp nS M)) (by with_unfolding_all rfl)).trans ?_
  exact eq_cmp_ge (by with_unfolding_all rfl)
set_option maxRecDepth 20000 in
theorem b_78_30 {d nS : Nat} {x0 x1 x2 x7 : Int32} {zx8 : Value} {x3 x5 : Int64} {M : am_M} {Q : Option Value → am_H → Prop} (h1 : ¬ x3 = 0) : am_Wp d 78 30 [.int x0, .int x1, .int x2, .long x3, .retAddr 0, .long x5, .retAddr 0, .int x7, zx8, .retAddr 0] [] (hp nS M) Q = if ¬ (x7 + 1) = x2 then am_Wp d 78 53 [.int x0, .int x1, .int x2, .long x3, .retAddr 0, .long x5, .retAddr 0, .int (x7 + 1), .long (((x5 + x3) - 1) / x3), .retAddr 0] [] (hp nS M) Q else am_Wp d 78 49 [.int x0, .int x1, .int x2, .long x3, .retAddr 0, .long x5, .retAddr 0, .int (x7 + 1), .long (((x5 + x3) - 1) / x3), .retAddr 0] [] (hp nS M) Q := by
  refine (eq_run 6 (q := (37, [.int x0, .int x1, .int x2, .long x3, .retAddr 0, .long x5, .retAddr 0, .int x7, zx8, .retAddr 0], [.long x3, .long ((x5 + x3) - 1)], hp nS M)) (by with_unfolding_all rfl)).trans ?_
  refine (eq_ldiv (e := (.ldiv, 1, 0, 0, 0)) (by with_unfolding_all rfl) rfl h1).trans ?_
  refine (eq_run 4 (q := (46, [.int x0, .int x1, .int x2, .long x3, .retAddr 0, .long x5, .retAddr 0, .int (x7 + 1), .long (((x5 + x3) - 1) / x3), .retAddr 0], [.int x2, .int (x7 + 1)], hp nS M)) (by with_unfolding_all rfl)).trans ?_
  exact eq_cmp_ne (by with_unfolding_all rfl)
set_option maxRecDepth 20000 in
theorem b_78_49 {d nS : Nat} {x0 x1 x2 x7 : Int32} {x3 x5 x8 : Int64} {M : am_M} {Q : Option Value → am_H → Prop} : am_Wp d 78 49 [.int x0, .int x1, .int x2, .long x3, .retAddr 0, .long x5, .retAddr 0, .int x7, .long x8, .retAddr 0] [] (hp nS M) Q = Q (some (.int x8.toInt32)) (hp nS M) := by
  refine (eq_run 2 (q := (52, [.int x0, .int x1, .int x2, .long x3, .retAddr 0, .long x5, .retAddr 0, .int x7, .long x8, .retAddr 0], [.int x8.toInt32], hp nS M)) (by with_unfolding_all rfl)).trans ?_
  exact eq_retI2 (e := (.ireturn, 1, 0, 0, 0)) (t := .int) (by with_unfolding_all rfl) rfl (by with_unfolding_all rfl) rfl
set_option maxRecDepth 20000 in
theorem b_78_53 {d nS : Nat} {x0 x1 x2 x7 : Int32} {x3 x5 x8 : Int64} {M : am_M} {Q : Option Value → am_H → Prop} : am_Wp d 78 53 [.int x0, .int x1, .int x2, .long x3, .retAddr 0, .long x5, .retAddr 0, .int x7, .long x8, .retAddr 0] [] (hp nS M) Q = am_Wp d 78 10 [.int x0, .int x1, .int x2, .long ((x3 * x8) - x5), .retAddr 0, .long (x5 * x8), .retAddr 0, .int x7, .long x8, .retAddr 0] [] (hp nS M) Q := by
  exact eq_run 11 (q := (10, [.int x0, .int x1, .int x2, .long ((x3 * x8) - x5), .retAddr 0, .long (x5 * x8), .retAddr 0, .int x7, .long x8, .retAddr 0], [], hp nS M)) (by with_unfolding_all rfl)
set_option maxRecDepth 20000 in
theorem b_78_71 {d nS : Nat} {x0 x1 x2 x7 : Int32} {zx8 : Value} {x3 x5 : Int64} {M : am_M} {Q : Option Value → am_H → Prop} : am_Wp d 78 71 [.int x0, .int x1, .int x2, .long x3, .retAddr 0, .long x5, .retAddr 0, .int x7, zx8, .retAddr 0] [] (hp nS M) Q = if ¬ x2 = 0 then am_Wp d 78 80 [.int x0, .int x1, .int x2, .long x3, .retAddr 0, .long x5, .retAddr 0, .int x7, zx8, .retAddr 0] [] (hp nS M) Q else am_Wp d 78 75 [.int x0, .int x1, .int x2, .long x3, .retAddr 0, .long x5, .retAddr 0, .int x7, zx8, .retAddr 0] [] (hp nS M) Q := by
  refine (eq_run 1 (q := (72, [.int x0, .int x1, .int x2, .long x3, .retAddr 0, .long x5, .retAddr 0, .int x7, zx8, .retAddr 0], [.int x2], hp nS M)) (by with_unfolding_all rfl)).trans ?_
  exact eq_if_ne (by with_unfolding_all rfl)
set_option maxRecDepth 20000 in
theorem b_78_75 {d nS : Nat} {x0 x1 x2 x7 : Int32} {zx8 : Value} {x3 x5 : Int64} {M : am_M} {Q : Option Value → am_H → Prop} : am_Wp d 78 75 [.int x0, .int x1, .int x2, .long x3, .retAddr 0, .long x5, .retAddr 0, .int x7, zx8, .retAddr 0] [] (hp nS M) Q = am_Wp d 78 81 [.int x0, .int x1, .int x2, .long x3, .retAddr 0, .long x5, .retAddr 0, .int x7, zx8, .retAddr 0] [.int x7] (hp nS M) Q := by
  exact eq_run 2 (q := (81, [.int x0, .int x1, .int x2, .long x3, .retAddr 0, .long x5, .retAddr 0, .int x7, zx8, .retAddr 0], [.int x7], hp nS M)) (by with_unfolding_all rfl)
set_option maxRecDepth 20000 in
theorem b_78_80 {d nS : Nat} {x0 x1 x2 x7 : Int32} {zx8 : Value} {x3 x5 : Int64} {M : am_M} {Q : Option Value → am_H → Prop} : am_Wp d 78 80 [.int x0, .int x1, .int x2, .long x3, .retAddr 0, .long x5, .retAddr 0, .int x7, zx8, .retAddr 0] [] (hp nS M) Q = am_Wp d 78 81 [.int x0, .int x1, .int x2, .long x3, .retAddr 0, .long x5, .retAddr 0, .int x7, zx8, .retAddr 0] [.int (-1)] (hp nS M) Q := by
  exact eq_run 1 (q := (81, [.int x0, .int x1, .int x2, .long x3, .retAddr 0, .long x5, .retAddr 0, .int x7, zx8, .retAddr 0], [.int (-1)], hp nS M)) (by with_unfolding_all rfl)
set_option maxRecDepth 20000 in
theorem b_78_81 {d nS : Nat} {x0 x1 x2 x7 s0 : Int32} {zx8 : Value} {x3 x5 : Int64} {M : am_M} {Q : Option Value → am_H → Prop} : am_Wp d 78 81 [.int x0, .int x1, .int x2, .long x3, .retAddr 0, .long x5, .retAddr 0, .int x7, zx8, .retAddr 0] [.int s0] (hp nS M) Q = Q (some (.int s0)) (hp nS M) := by
  exact eq_retI2 (e := (.ireturn, 1, 0, 0, 0)) (t := .int) (by with_unfolding_all rfl) rfl (by with_unfolding_all rfl) rfl
-- LarkExchange$Sums sticksOf(I)I (79, (None,))
set_option maxRecDepth 20000 in
theorem b_79_0 {d nS : Nat} {x0 : Int32} {M : am_M} {Q : Option Value → am_H → Prop} (h1 : vp_in (x0 - x0 / 10 * 10) 10) : am_Wp d 79 0 [.int x0, .retAddr 0, .retAddr 0] [] (hp nS M) Q = am_Wp d 79 14 [.int x0, .int (M 1 (x0 - x0 / 10 * 10).toNatClampNeg), .int (x0 / 10)] [] (hp nS M) Q := by
  refine (eq_run 4 (q := (7, [.int x0, .retAddr 0, .retAddr 0], [.int (x0 - x0 / 10 * 10), .ref 1], hp nS M)) (by with_unfolding_all rfl)).trans ?_
  refine (eq_ald (e := (.iaload, 1, 0, 0, 0)) (by with_unfolding_all rfl) rfl (n := 10) (by with_unfolding_all rfl) h1).trans ?_
  exact eq_run 5 (q := (14, [.int x0, .int (M 1 (x0 - x0 / 10 * 10).toNatClampNeg), .int (x0 / 10)], [], hp nS M)) (by with_unfolding_all rfl)
set_option maxRecDepth 20000 in
theorem b_79_14 {d nS : Nat} {x0 x1 x2 : Int32} {M : am_M} {Q : Option Value → am_H → Prop} : am_Wp d 79 14 [.int x0, .int x1, .int x2] [] (hp nS M) Q = if x2 ≤ 0 then am_Wp d 79 37 [.int x0, .int x1, .int x2] [] (hp nS M) Q else am_Wp d 79 18 [.int x0, .int x1, .int x2] [] (hp nS M) Q := by
  refine (eq_run 1 (q := (15, [.int x0, .int x1, .int x2], [.int x2], hp nS M)) (by with_unfolding_all rfl)).trans ?_
  exact eq_if_le (by with_unfolding_all rfl)
set_option maxRecDepth 20000 in
theorem b_79_18 {d nS : Nat} {x0 x1 x2 : Int32} {M : am_M} {Q : Option Value → am_H → Prop} (h1 : vp_in (x2 - x2 / 10 * 10) 10) : am_Wp d 79 18 [.int x0, .int x1, .int x2] [] (hp nS M) Q = am_Wp d 79 14 [.int x0, .int (x1 + (M 1 (x2 - x2 / 10 * 10).toNatClampNeg)), .int (x2 / 10)] [] (hp nS M) Q := by
  refine (eq_run 5 (q := (26, [.int x0, .int x1, .int x2], [.int (x2 - x2 / 10 * 10), .ref 1, .int x1], hp nS M)) (by with_unfolding_all rfl)).trans ?_
  refine (eq_ald (e := (.iaload, 1, 0, 0, 0)) (by with_unfolding_all rfl) rfl (n := 10) (by with_unfolding_all rfl) h1).trans ?_
  exact eq_run 7 (q := (14, [.int x0, .int (x1 + (M 1 (x2 - x2 / 10 * 10).toNatClampNeg)), .int (x2 / 10)], [], hp nS M)) (by with_unfolding_all rfl)
set_option maxRecDepth 20000 in
theorem b_79_37 {d nS : Nat} {x0 x1 x2 : Int32} {M : am_M} {Q : Option Value → am_H → Prop} : am_Wp d 79 37 [.int x0, .int x1, .int x2] [] (hp nS M) Q = Q (some (.int x1)) (hp nS M) := by
  refine (eq_run 1 (q := (38, [.int x0, .int x1, .int x2], [.int x1], hp nS M)) (by with_unfolding_all rfl)).trans ?_
  exact eq_retI2 (e := (.ireturn, 1, 0, 0, 0)) (t := .int) (by with_unfolding_all rfl) rfl (by with_unfolding_all rfl) rfl
-- LarkExchange$Sums leastOfSticks(I)I (80, (None,))
set_option maxRecDepth 20000 in
theorem b_80_0 {d nS : Nat} {x0 : Int32} {M : am_M} {Q : Option Value → am_H → Prop} : am_Wp d 80 0 [.int x0, .retAddr 0, .retAddr 0, .retAddr 0, .retAddr 0, .retAddr 0] [] (hp nS M) Q = am_Wp d 80 17 [.int x0, .int ((x0 + 6) / 7), .int x0, .int 0, .int (((x0 + 6) / 7) - 1), .retAddr 0] [] (hp nS M) Q := by
  exact eq_run 14 (q := (17, [.int x0, .int ((x0 + 6) / 7), .int x0, .int 0, .int (((x0 + 6) / 7) - 1), .retAddr 0], [], hp nS M)) (by with_unfolding_all rfl)
set_option maxRecDepth 20000 in
theorem b_80_17 {d nS : Nat} {x0 x1 x2 x3 x4 : Int32} {zx5 : Value} {M : am_M} {Q : Option Value → am_H → Prop} : am_Wp d 80 17 [.int x0, .int x1, .int x2, .int x3, .int x4, zx5] [] (hp nS M) Q = if x4 < 0 then am_Wp d 80 101 [.int x0, .int x1, .int x2, .int x3, .int x4, zx5] [] (hp nS M) Q else am_Wp d 80 22 [.int x0, .int x1, .int x2, .int x3, .int x4, zx5] [] (hp nS M) Q := by
  refine (eq_run 1 (q := (19, [.int x0, .int x1, .int x2, .int x3, .int x4, zx5], [.int x4], hp nS M)) (by with_unfolding_all rfl)).trans ?_
  exact eq_if_lt (by with_unfolding_all rfl)
set_option maxRecDepth 20000 in
theorem b_80_22 {d nS : Nat} {x0 x1 x2 x3 x4 : Int32} {zx5 : Value} {M : am_M} {Q : Option Value → am_H → Prop} : am_Wp d 80 22 [.int x0, .int x1, .int x2, .int x3, .int x4, zx5] [] (hp nS M) Q = if ¬ x4 = (x1 - 1) then am_Wp d 80 39 [.int x0, .int x1, .int x2, .int x3, .int x4, zx5] [] (hp nS M) Q else am_Wp d 80 30 [.int x0, .int x1, .int x2, .int x3, .int x4, zx5] [] (hp nS M) Q := by
  refine (eq_run 4 (q := (27, [.int x0, .int x1, .int x2, .int x3, .int x4, zx5], [.int (x1 - 1), .int x4], hp nS M)) (by with_unfolding_all rfl)).trans ?_
  exact eq_cmp_ne (by with_unfolding_all rfl)
set_option maxRecDepth 20000 in
theorem b_80_30 {d nS : Nat} {x0 x1 x2 x3 x4 : Int32} {zx5 : Value} {M : am_M} {Q : Option Value → am_H → Prop} : am_Wp d 80 30 [.int x0, .int x1, .int x2, .int x3, .int x4, zx5] [] (hp nS M) Q = if x1 ≤ 1 then am_Wp d 80 39 [.int x0, .int x1, .int x2, .int x3, .int x4, zx5] [] (hp nS M) Q else am_Wp d 80 35 [.int x0, .int x1, .int x2, .int x3, .int x4, zx5] [] (hp nS M) Q := by
  refine (eq_run 2 (q := (32, [.int x0, .int x1, .int x2, .int x3, .int x4, zx5], [.int 1, .int x1], hp nS M)) (by with_unfolding_all rfl)).trans ?_
  exact eq_cmp_le (by with_unfolding_all rfl)
set_option maxRecDepth 20000 in
theorem b_80_35 {d nS : Nat} {x0 x1 x2 x3 x4 : Int32} {zx5 : Value} {M : am_M} {Q : Option Value → am_H → Prop} : am_Wp d 80 35 [.int x0, .int x1, .int x2, .int x3, .int x4, zx5] [] (hp nS M) Q = am_Wp d 80 40 [.int x0, .int x1, .int x2, .int x3, .int x4, zx5] [.int 1] (hp nS M) Q := by
  exact eq_run 2 (q := (40, [.int x0, .int x1, .int x2, .int x3, .int x4, zx5], [.int 1], hp nS M)) (by with_unfolding_all rfl)
set_option maxRecDepth 20000 in
theorem b_80_39 {d nS : Nat} {x0 x1 x2 x3 x4 : Int32} {zx5 : Value} {M : am_M} {Q : Option Value → am_H → Prop} : am_Wp d 80 39 [.int x0, .int x1, .int x2, .int x3, .int x4, zx5] [] (hp nS M) Q = am_Wp d 80 40 [.int x0, .int x1, .int x2, .int x3, .int x4, zx5] [.int 0] (hp nS M) Q := by
  exact eq_run 1 (q := (40, [.int x0, .int x1, .int x2, .int x3, .int x4, zx5], [.int 0], hp nS M)) (by with_unfolding_all rfl)
set_option maxRecDepth 20000 in
theorem b_80_40 {d nS : Nat} {x0 x1 x2 x3 x4 s0 : Int32} {zx5 : Value} {M : am_M} {Q : Option Value → am_H → Prop} : am_Wp d 80 40 [.int x0, .int x1, .int x2, .int x3, .int x4, zx5] [.int s0] (hp nS M) Q = am_Wp d 80 42 [.int x0, .int x1, .int x2, .int x3, .int x4, .int s0] [] (hp nS M) Q := by
  exact eq_run 1 (q := (42, [.int x0, .int x1, .int x2, .int x3, .int x4, .int s0], [], hp nS M)) (by with_unfolding_all rfl)
set_option maxRecDepth 20000 in
theorem b_80_42 {d nS : Nat} {x0 x1 x2 x3 x4 x5 : Int32} {M : am_M} {Q : Option Value → am_H → Prop} : am_Wp d 80 42 [.int x0, .int x1, .int x2, .int x3, .int x4, .int x5] [] (hp nS M) Q = if 9 ≤ x5 then am_Wp d 80 78 [.int x0, .int x1, .int x2, .int x3, .int x4, .int x5] [] (hp nS M) Q else am_Wp d 80 49 [.int x0, .int x1, .int x2, .int x3, .int x4, .int x5] [] (hp nS M) Q := by
  refine (eq_run 2 (q := (46, [.int x0, .int x1, .int x2, .int x3, .int x4, .int x5], [.int 9, .int x5], hp nS M)) (by with_unfolding_all rfl)).trans ?_
  exact eq_cmp_ge (by with_unfolding_all rfl)
set_option maxRecDepth 20000 in
theorem b_80_49 {d nS : Nat} {x0 x1 x2 x3 x4 x5 : Int32} {M : am_M} {Q : Option Value → am_H → Prop} (h1 : vp_in x5 10) : am_Wp (d + 1) 80 49 [.int x0, .int x1, .int x2, .int x3, .int x4, .int x5] [] (hp nS M) Q = am_Wp d 125 0 [.int (x2 - (M 1 x5.toNatClampNeg)), .int (x4 * 2), .int (x4 * 7)] [] (hp nS M) (fun v h1 => am_Wp (d + 1) 80 69 [.int x0, .int x1, .int x2, .int x3, .int x4, .int x5] (am_ans v []) h1 Q) := by
  refine (eq_run 3 (q := (55, [.int x0, .int x1, .int x2, .int x3, .int x4, .int x5], [.int x5, .ref 1, .int x2], hp nS M)) (by with_unfolding_all rfl)).trans ?_
  refine (eq_ald (e := (.iaload, 1, 0, 0, 0)) (by with_unfolding_all rfl) rfl (n := 10) (by with_unfolding_all rfl) h1).trans ?_
  refine (eq_run 7 (q := (66, [.int x0, .int x1, .int x2, .int x3, .int x4, .int x5], [.int (x4 * 7), .int (x4 * 2), .int (x2 - (M 1 x5.toNatClampNeg))], hp nS M)) (by with_unfolding_all rfl)).trans ?_
  exact eq_call2 (e := (.invokestatic 21, 3, 3, 125, 143)) (as := [.int (x2 - (M 1 x5.toNatClampNeg)), .int (x4 * 2), .int (x4 * 7)]) (r := []) (n := 3) (m := 3) (by with_unfolding_all rfl) rfl (by decide) (by with_unfolding_all rfl) (by decide) (by with_unfolding_all rfl) ⟨fun z => absurd z (by decide), fun z => by simp at z⟩
set_option maxRecDepth 20000 in
theorem b_80_69 {d nS : Nat} {x0 x1 x2 x3 x4 x5 s0 : Int32} {M : am_M} {Q : Option Value → am_H → Prop} : am_Wp d 80 69 [.int x0, .int x1, .int x2, .int x3, .int x4, .int x5] [.int s0] (hp nS M) Q = if s0 = 0 then am_Wp d 80 78 [.int x0, .int x1, .int x2, .int x3, .int x4, .int x5] [] (hp nS M) Q else am_Wp d 80 72 [.int x0, .int x1, .int x2, .int x3, .int x4, .int x5] [] (hp nS M) Q := by
  exact eq_if_eq (by with_unfolding_all rfl)
set_option maxRecDepth 20000 in
theorem b_80_72 {d nS : Nat} {x0 x1 x2 x3 x4 x5 : Int32} {M : am_M} {Q : Option Value → am_H → Prop} : am_Wp d 80 72 [.int x0, .int x1, .int x2, .int x3, .int x4, .int x5] [] (hp nS M) Q = am_Wp d 80 42 [.int x0, .int x1, .int x2, .int x3, .int x4, .int (x5 + 1)] [] (hp nS M) Q := by
  exact eq_run 2 (q := (42, [.int x0, .int x1, .int x2, .int x3, .int x4, .int (x5 + 1)], [], hp nS M)) (by with_unfolding_all rfl)
set_option maxRecDepth 20000 in
theorem b_80_78 {d nS : Nat} {x0 x1 x2 x3 x4 x5 : Int32} {M : am_M} {Q : Option Value → am_H → Prop} (h1 : vp_in x5 10) : am_Wp d 80 78 [.int x0, .int x1, .int x2, .int x3, .int x4, .int x5] [] (hp nS M) Q = am_Wp d 80 17 [.int x0, .int x1, .int (x2 - (M 1 x5.toNatClampNeg)), .int ((x3 * 10) + x5), .int (x4 + (-1)), .int x5] [] (hp nS M) Q := by
  refine (eq_run 3 (q := (84, [.int x0, .int x1, .int x2, .int x3, .int x4, .int x5], [.int x5, .ref 1, .int x2], hp nS M)) (by with_unfolding_all rfl)).trans ?_
  refine (eq_ald (e := (.iaload, 1, 0, 0, 0)) (by with_unfolding_all rfl) rfl (n := 10) (by with_unfolding_all rfl) h1).trans ?_
  exact eq_run 10 (q := (17, [.int x0, .int x1, .int (x2 - (M 1 x5.toNatClampNeg)), .int ((x3 * 10) + x5), .int (x4 + (-1)), .int x5], [], hp nS M)) (by with_unfolding_all rfl)
set_option maxRecDepth 20000 in
theorem b_80_101 {d nS : Nat} {x0 x1 x2 x3 x4 : Int32} {zx5 : Value} {M : am_M} {Q : Option Value → am_H → Prop} : am_Wp d 80 101 [.int x0, .int x1, .int x2, .int x3, .int x4, zx5] [] (hp nS M) Q = Q (some (.int x3)) (hp nS M) := by
  refine (eq_run 1 (q := (102, [.int x0, .int x1, .int x2, .int x3, .int x4, zx5], [.int x3], hp nS M)) (by with_unfolding_all rfl)).trans ?_
  exact eq_retI2 (e := (.ireturn, 1, 0, 0, 0)) (t := .int) (by with_unfolding_all rfl) rfl (by with_unfolding_all rfl) rfl
-- LarkExchange$Sums otherWayTwos(I)I (81, (None,))
set_option maxRecDepth 20000 in
theorem b_81_0 {d nS : Nat} {x0 : Int32} {M : am_M} {Q : Option Value → am_H → Prop} : am_Wp d 81 0 [.int x0, .retAddr 0, .retAddr 0, .retAddr 0, .retAddr 0] [] (hp nS M) Q = am_Wp d 81 6 [.int x0, .int 0, .int x0, .int 0, .retAddr 0] [] (hp nS M) Q := by
  exact eq_run 6 (q := (6, [.int x0, .int 0, .int x0, .int 0, .retAddr 0], [], hp nS M)) (by with_unfolding_all rfl)
set_option maxRecDepth 20000 in
theorem b_81_6 {d nS : Nat} {x0 x1 x2 x3 : Int32} {zx4 : Value} {M : am_M} {Q : Option Value → am_H → Prop} : am_Wp d 81 6 [.int x0, .int x1, .int x2, .int x3, zx4] [] (hp nS M) Q = if 31 ≤ x3 then am_Wp d 81 42 [.int x0, .int x1, .int x2, .int x3, zx4] [] (hp nS M) Q else am_Wp d 81 12 [.int x0, .int x1, .int x2, .int x3, zx4] [] (hp nS M) Q := by
  refine (eq_run 2 (q := (9, [.int x0, .int x1, .int x2, .int x3, zx4], [.int 31, .int x3], hp nS M)) (by with_unfolding_all rfl)).trans ?_
  exact eq_cmp_ge (by with_unfolding_all rfl)
set_option maxRecDepth 20000 in
theorem b_81_12 {d nS : Nat} {x0 x1 x2 x3 : Int32} {zx4 : Value} {M : am_M} {Q : Option Value → am_H → Prop} : am_Wp d 81 12 [.int x0, .int x1, .int x2, .int x3, zx4] [] (hp nS M) Q = if x2 = 0 then am_Wp d 81 42 [.int x0, .int x1, .int x2, .int x3, zx4] [] (hp nS M) Q else am_Wp d 81 16 [.int x0, .int x1, .int x2, .int x3, zx4] [] (hp nS M) Q := by
  refine (eq_run 1 (q := (13, [.int x0, .int x1, .int x2, .int x3, zx4], [.int x2], hp nS M)) (by with_unfolding_all rfl)).trans ?_
  exact eq_if_eq (by with_unfolding_all rfl)
set_option maxRecDepth 20000 in
theorem b_81_16 {d nS : Nat} {x0 x1 x2 x3 : Int32} {zx4 : Value} {M : am_M} {Q : Option Value → am_H → Prop} : am_Wp d 81 16 [.int x0, .int x1, .int x2, .int x3, zx4] [] (hp nS M) Q = am_Wp d 81 6 [.int x0, .int (x1 ||| ((x2 &&& 1) <<< (x3 &&& 31))), .int ((x2 - (x2 &&& 1)) / (-2)), .int (x3 + 1), .int (x2 &&& 1)] [] (hp nS M) Q := by
  exact eq_run 18 (q := (6, [.int x0, .int (x1 ||| ((x2 &&& 1) <<< (x3 &&& 31))), .int ((x2 - (x2 &&& 1)) / (-2)), .int (x3 + 1), .int (x2 &&& 1)], [], hp nS M)) (by with_unfolding_all rfl)
set_option maxRecDepth 20000 in
theorem b_81_42 {d nS : Nat} {x0 x1 x2 x3 : Int32} {zx4 : Value} {M : am_M} {Q : Option Value → am_H → Prop} : am_Wp d 81 42 [.int x0, .int x1, .int x2, .int x3, zx4] [] (hp nS M) Q = Q (some (.int x1)) (hp nS M) := by
  refine (eq_run 1 (q := (43, [.int x0, .int x1, .int x2, .int x3, zx4], [.int x1], hp nS M)) (by with_unfolding_all rfl)).trans ?_
  exact eq_retI2 (e := (.ireturn, 1, 0, 0, 0)) (t := .int) (by with_unfolding_all rfl) rfl (by with_unfolding_all rfl) rfl
-- LarkExchange$Sums lengthOf(I)I (82, (None,))
set_option maxRecDepth 20000 in
theorem b_82_0 {d nS : Nat} {x0 : Int32} {M : am_M} {Q : Option Value → am_H → Prop} : am_Wp d 82 0 [.int x0, .retAddr 0] [] (hp nS M) Q = am_Wp d 82 2 [.int x0, .int 1] [] (hp nS M) Q := by
  exact eq_run 2 (q := (2, [.int x0, .int 1], [], hp nS M)) (by with_unfolding_all rfl)
set_option maxRecDepth 20000 in
theorem b_82_2 {d nS : Nat} {x0 x1 : Int32} {M : am_M} {Q : Option Value → am_H → Prop} : am_Wp d 82 2 [.int x0, .int x1] [] (hp nS M) Q = if 31 ≤ x1 then am_Wp d 82 20 [.int x0, .int x1] [] (hp nS M) Q else am_Wp d 82 8 [.int x0, .int x1] [] (hp nS M) Q := by
  refine (eq_run 2 (q := (5, [.int x0, .int x1], [.int 31, .int x1], hp nS M)) (by with_unfolding_all rfl)).trans ?_
  exact eq_cmp_ge (by with_unfolding_all rfl)
set_option maxRecDepth 20000 in
theorem b_82_8 {d nS : Nat} {x0 x1 : Int32} {M : am_M} {Q : Option Value → am_H → Prop} : am_Wp d 82 8 [.int x0, .int x1] [] (hp nS M) Q = if (x0 >>> (x1 &&& 31)) = 0 then am_Wp d 82 20 [.int x0, .int x1] [] (hp nS M) Q else am_Wp d 82 14 [.int x0, .int x1] [] (hp nS M) Q := by
  refine (eq_run 3 (q := (11, [.int x0, .int x1], [.int (x0 >>> (x1 &&& 31))], hp nS M)) (by with_unfolding_all rfl)).trans ?_
  exact eq_if_eq (by with_unfolding_all rfl)
set_option maxRecDepth 20000 in
theorem b_82_14 {d nS : Nat} {x0 x1 : Int32} {M : am_M} {Q : Option Value → am_H → Prop} : am_Wp d 82 14 [.int x0, .int x1] [] (hp nS M) Q = am_Wp d 82 2 [.int x0, .int (x1 + 1)] [] (hp nS M) Q := by
  exact eq_run 2 (q := (2, [.int x0, .int (x1 + 1)], [], hp nS M)) (by with_unfolding_all rfl)
set_option maxRecDepth 20000 in
theorem b_82_20 {d nS : Nat} {x0 x1 : Int32} {M : am_M} {Q : Option Value → am_H → Prop} : am_Wp d 82 20 [.int x0, .int x1] [] (hp nS M) Q = Q (some (.int x1)) (hp nS M) := by
  refine (eq_run 1 (q := (21, [.int x0, .int x1], [.int x1], hp nS M)) (by with_unfolding_all rfl)).trans ?_
  exact eq_retI2 (e := (.ireturn, 1, 0, 0, 0)) (t := .int) (by with_unfolding_all rfl) rfl (by with_unfolding_all rfl) rfl
-- LarkExchange$Sums lettersOf(I)I (83, (None,))
set_option maxRecDepth 20000 in
theorem b_83_0 {d nS : Nat} {x0 : Int32} {M : am_M} {Q : Option Value → am_H → Prop} : am_Wp d 83 0 [.int x0, .retAddr 0] [] (hp nS M) Q = if 100 ≤ x0 then am_Wp d 83 11 [.int x0, .retAddr 0] [] (hp nS M) Q else am_Wp d 83 6 [.int x0, .retAddr 0] [] (hp nS M) Q := by
  refine (eq_run 2 (q := (3, [.int x0, .retAddr 0], [.int 100, .int x0], hp nS M)) (by with_unfolding_all rfl)).trans ?_
  exact eq_cmp_ge (by with_unfolding_all rfl)
set_option maxRecDepth 20000 in
theorem b_83_6 {d nS : Nat} {x0 : Int32} {M : am_M} {Q : Option Value → am_H → Prop} : am_Wp (d + 1) 83 6 [.int x0, .retAddr 0] [] (hp nS M) Q = am_Wp d 84 0 [.int x0] [] (hp nS M) (fun v h1 => am_Wp (d + 1) 83 10 [.int x0, .retAddr 0] (am_ans v []) h1 Q) := by
  refine (eq_run 1 (q := (7, [.int x0, .retAddr 0], [.int x0], hp nS M)) (by with_unfolding_all rfl)).trans ?_
  exact eq_call2 (e := (.invokestatic 25, 3, 1, 84, 144)) (as := [.int x0]) (r := []) (n := 1) (m := 1) (by with_unfolding_all rfl) rfl (by decide) (by with_unfolding_all rfl) (by decide) (by with_unfolding_all rfl) ⟨fun z => absurd z (by decide), fun z => by simp at z⟩
set_option maxRecDepth 20000 in
theorem b_83_10 {d nS : Nat} {x0 s0 : Int32} {M : am_M} {Q : Option Value → am_H → Prop} : am_Wp d 83 10 [.int x0, .retAddr 0] [.int s0] (hp nS M) Q = Q (some (.int s0)) (hp nS M) := by
  exact eq_retI2 (e := (.ireturn, 1, 0, 0, 0)) (t := .int) (by with_unfolding_all rfl) rfl (by with_unfolding_all rfl) rfl
set_option maxRecDepth 20000 in
theorem b_83_11 {d nS : Nat} {x0 : Int32} {M : am_M} {Q : Option Value → am_H → Prop} (h1 : vp_in (x0 / 100) 20) : am_Wp d 83 11 [.int x0, .retAddr 0] [] (hp nS M) Q = if ¬ (x0 - x0 / 100 * 100) = 0 then am_Wp d 83 35 [.int x0, .int (x0 - x0 / 100 * 100)] [.int ((M 2 (x0 / 100).toNatClampNeg) + 7)] (hp nS M) Q else am_Wp d 83 31 [.int x0, .int (x0 - x0 / 100 * 100)] [.int ((M 2 (x0 / 100).toNatClampNeg) + 7)] (hp nS M) Q := by
  refine (eq_run 8 (q := (23, [.int x0, .int (x0 - x0 / 100 * 100)], [.int (x0 / 100), .ref 2], hp nS M)) (by with_unfolding_all rfl)).trans ?_
  refine (eq_ald (e := (.iaload, 1, 0, 0, 0)) (by with_unfolding_all rfl) rfl (n := 20) (by with_unfolding_all rfl) h1).trans ?_
  refine (eq_run 3 (q := (28, [.int x0, .int (x0 - x0 / 100 * 100)], [.int (x0 - x0 / 100 * 100), .int ((M 2 (x0 / 100).toNatClampNeg) + 7)], hp nS M)) (by with_unfolding_all rfl)).trans ?_
  exact eq_if_ne (by with_unfolding_all rfl)
set_option maxRecDepth 20000 in
theorem b_83_31 {d nS : Nat} {x0 x1 s0 : Int32} {M : am_M} {Q : Option Value → am_H → Prop} : am_Wp d 83 31 [.int x0, .int x1] [.int s0] (hp nS M) Q = am_Wp d 83 39 [.int x0, .int x1] [.int 0, .int s0] (hp nS M) Q := by
  exact eq_run 2 (q := (39, [.int x0, .int x1], [.int 0, .int s0], hp nS M)) (by with_unfolding_all rfl)
set_option maxRecDepth 20000 in
theorem b_83_35 {d nS : Nat} {x0 x1 s0 : Int32} {M : am_M} {Q : Option Value → am_H → Prop} : am_Wp (d + 1) 83 35 [.int x0, .int x1] [.int s0] (hp nS M) Q = am_Wp d 84 0 [.int x1] [] (hp nS M) (fun v h1 => am_Wp (d + 1) 83 39 [.int x0, .int x1] (am_ans v [.int s0]) h1 Q) := by
  refine (eq_run 1 (q := (36, [.int x0, .int x1], [.int x1, .int s0], hp nS M)) (by with_unfolding_all rfl)).trans ?_
  exact eq_call2 (e := (.invokestatic 25, 3, 1, 84, 144)) (as := [.int x1]) (r := [.int s0]) (n := 1) (m := 1) (by with_unfolding_all rfl) rfl (by decide) (by with_unfolding_all rfl) (by decide) (by with_unfolding_all rfl) ⟨fun z => absurd z (by decide), fun z => by simp at z⟩
set_option maxRecDepth 20000 in
theorem b_83_39 {d nS : Nat} {x0 x1 s0 s1 : Int32} {M : am_M} {Q : Option Value → am_H → Prop} : am_Wp d 83 39 [.int x0, .int x1] [.int s1, .int s0] (hp nS M) Q = Q (some (.int (s0 + s1))) (hp nS M) := by
  refine (eq_run 1 (q := (40, [.int x0, .int x1], [.int (s0 + s1)], hp nS M)) (by with_unfolding_all rfl)).trans ?_
  exact eq_retI2 (e := (.ireturn, 1, 0, 0, 0)) (t := .int) (by with_unfolding_all rfl) rfl (by with_unfolding_all rfl) rfl
-- LarkExchange$Sums lettersBelowHundred(I)I (84, (None,))
set_option maxRecDepth 20000 in
theorem b_84_0 {d nS : Nat} {x0 : Int32} {M : am_M} {Q : Option Value → am_H → Prop} : am_Wp d 84 0 [.int x0] [] (hp nS M) Q = if 20 ≤ x0 then am_Wp d 84 12 [.int x0] [] (hp nS M) Q else am_Wp d 84 6 [.int x0] [] (hp nS M) Q := by
  refine (eq_run 2 (q := (3, [.int x0], [.int 20, .int x0], hp nS M)) (by with_unfolding_all rfl)).trans ?_
  exact eq_cmp_ge (by with_unfolding_all rfl)
set_option maxRecDepth 20000 in
theorem b_84_6 {d nS : Nat} {x0 : Int32} {M : am_M} {Q : Option Value → am_H → Prop} (h1 : vp_in x0 20) : am_Wp d 84 6 [.int x0] [] (hp nS M) Q = Q (some (.int (M 2 x0.toNatClampNeg))) (hp nS M) := by
  refine (eq_run 2 (q := (10, [.int x0], [.int x0, .ref 2], hp nS M)) (by with_unfolding_all rfl)).trans ?_
  refine (eq_ald (e := (.iaload, 1, 0, 0, 0)) (by with_unfolding_all rfl) rfl (n := 20) (by with_unfolding_all rfl) h1).trans ?_
  exact eq_retI2 (e := (.ireturn, 1, 0, 0, 0)) (t := .int) (by with_unfolding_all rfl) rfl (by with_unfolding_all rfl) rfl
set_option maxRecDepth 20000 in
theorem b_84_12 {d nS : Nat} {x0 : Int32} {M : am_M} {Q : Option Value → am_H → Prop} (h1 : vp_in (x0 / 10) 10) : am_Wp d 84 12 [.int x0] [] (hp nS M) Q = if ¬ (x0 - x0 / 10 * 10) = 0 then am_Wp d 84 31 [.int x0] [.int (M 3 (x0 / 10).toNatClampNeg)] (hp nS M) Q else am_Wp d 84 27 [.int x0] [.int (M 3 (x0 / 10).toNatClampNeg)] (hp nS M) Q := by
  refine (eq_run 4 (q := (19, [.int x0], [.int (x0 / 10), .ref 3], hp nS M)) (by with_unfolding_all rfl)).trans ?_
  refine (eq_ald (e := (.iaload, 1, 0, 0, 0)) (by with_unfolding_all rfl) rfl (n := 10) (by with_unfolding_all rfl) h1).trans ?_
  refine (eq_run 3 (q := (24, [.int x0], [.int (x0 - x0 / 10 * 10), .int (M 3 (x0 / 10).toNatClampNeg)], hp nS M)) (by with_unfolding_all rfl)).trans ?_
  exact eq_if_ne (by with_unfolding_all rfl)
set_option maxRecDepth 20000 in
theorem b_84_27 {d nS : Nat} {x0 s0 : Int32} {M : am_M} {Q : Option Value → am_H → Prop} : am_Wp d 84 27 [.int x0] [.int s0] (hp nS M) Q = am_Wp d 84 39 [.int x0] [.int 0, .int s0] (hp nS M) Q := by
  exact eq_run 2 (q := (39, [.int x0], [.int 0, .int s0], hp nS M)) (by with_unfolding_all rfl)
set_option maxRecDepth 20000 in
theorem b_84_31 {d nS : Nat} {x0 s0 : Int32} {M : am_M} {Q : Option Value → am_H → Prop} (h1 : vp_in (x0 - x0 / 10 * 10) 20) : am_Wp d 84 31 [.int x0] [.int s0] (hp nS M) Q = am_Wp d 84 39 [.int x0] [.int (M 2 (x0 - x0 / 10 * 10).toNatClampNeg), .int s0] (hp nS M) Q := by
  refine (eq_run 4 (q := (38, [.int x0], [.int (x0 - x0 / 10 * 10), .ref 2, .int s0], hp nS M)) (by with_unfolding_all rfl)).trans ?_
  exact eq_ald (e := (.iaload, 1, 0, 0, 0)) (by with_unfolding_all rfl) rfl (n := 20) (by with_unfolding_all rfl) h1
set_option maxRecDepth 20000 in
theorem b_84_39 {d nS : Nat} {x0 s0 s1 : Int32} {M : am_M} {Q : Option Value → am_H → Prop} : am_Wp d 84 39 [.int x0] [.int s1, .int s0] (hp nS M) Q = Q (some (.int (s0 + s1))) (hp nS M) := by
  refine (eq_run 1 (q := (40, [.int x0], [.int (s0 + s1)], hp nS M)) (by with_unfolding_all rfl)).trans ?_
  exact eq_retI2 (e := (.ireturn, 1, 0, 0, 0)) (t := .int) (by with_unfolding_all rfl) rfl (by with_unfolding_all rfl) rfl
-- LarkExchange$Sums longestUpTo(I)I (85, (None,))
set_option maxRecDepth 20000 in
theorem b_85_0 {d nS : Nat} {x0 : Int32} {M : am_M} {Q : Option Value → am_H → Prop} : am_Wp d 85 0 [.int x0, .retAddr 0, .retAddr 0, .retAddr 0, .retAddr 0] [] (hp nS M) Q = am_Wp d 85 6 [.int x0, .int 0, .int 0, .int 0, .retAddr 0] [] (hp nS M) Q := by
  exact eq_run 6 (q := (6, [.int x0, .int 0, .int 0, .int 0, .retAddr 0], [], hp nS M)) (by with_unfolding_all rfl)
set_option maxRecDepth 20000 in
theorem b_85_6 {d nS : Nat} {x0 x1 x2 x3 : Int32} {zx4 : Value} {M : am_M} {Q : Option Value → am_H → Prop} : am_Wp d 85 6 [.int x0, .int x1, .int x2, .int x3, zx4] [] (hp nS M) Q = if x0 < x3 then am_Wp d 85 34 [.int x0, .int x1, .int x2, .int x3, zx4] [] (hp nS M) Q else am_Wp d 85 11 [.int x0, .int x1, .int x2, .int x3, zx4] [] (hp nS M) Q := by
  refine (eq_run 2 (q := (8, [.int x0, .int x1, .int x2, .int x3, zx4], [.int x0, .int x3], hp nS M)) (by with_unfolding_all rfl)).trans ?_
  exact eq_cmp_gt (by with_unfolding_all rfl)
set_option maxRecDepth 20000 in
theorem b_85_11 {d nS : Nat} {x0 x1 x2 x3 : Int32} {zx4 : Value} {M : am_M} {Q : Option Value → am_H → Prop} : am_Wp (d + 1) 85 11 [.int x0, .int x1, .int x2, .int x3, zx4] [] (hp nS M) Q = am_Wp d 83 0 [.int x3, .retAddr 0] [] (hp nS M) (fun v h1 => am_Wp (d + 1) 85 15 [.int x0, .int x1, .int x2, .int x3, zx4] (am_ans v []) h1 Q) := by
  refine (eq_run 1 (q := (12, [.int x0, .int x1, .int x2, .int x3, zx4], [.int x3], hp nS M)) (by with_unfolding_all rfl)).trans ?_
  exact eq_call2 (e := (.invokestatic 35, 3, 1, 83, 145)) (as := [.int x3]) (r := []) (n := 1) (m := 2) (by with_unfolding_all rfl) rfl (by decide) (by with_unfolding_all rfl) (by decide) (by with_unfolding_all rfl) ⟨fun z => absurd z (by decide), fun z => by simp at z⟩
set_option maxRecDepth 20000 in
theorem b_85_15 {d nS : Nat} {x0 x1 x2 x3 s0 : Int32} {zx4 : Value} {M : am_M} {Q : Option Value → am_H → Prop} : am_Wp d 85 15 [.int x0, .int x1, .int x2, .int x3, zx4] [.int s0] (hp nS M) Q = if s0 ≤ x2 then am_Wp d 85 28 [.int x0, .int x1, .int x2, .int x3, .int s0] [] (hp nS M) Q else am_Wp d 85 23 [.int x0, .int x1, .int x2, .int x3, .int s0] [] (hp nS M) Q := by
  refine (eq_run 3 (q := (20, [.int x0, .int x1, .int x2, .int x3, .int s0], [.int x2, .int s0], hp nS M)) (by with_unfolding_all rfl)).trans ?_
  exact eq_cmp_le (by with_unfolding_all rfl)
set_option maxRecDepth 20000 in
theorem b_85_23 {d nS : Nat} {x0 x1 x2 x3 x4 : Int32} {M : am_M} {Q : Option Value → am_H → Prop} : am_Wp d 85 23 [.int x0, .int x1, .int x2, .int x3, .int x4] [] (hp nS M) Q = am_Wp d 85 28 [.int x0, .int x3, .int x4, .int x3, .int x4] [] (hp nS M) Q := by
  exact eq_run 4 (q := (28, [.int x0, .int x3, .int x4, .int x3, .int x4], [], hp nS M)) (by with_unfolding_all rfl)
set_option maxRecDepth 20000 in
theorem b_85_28 {d nS : Nat} {x0 x1 x2 x3 x4 : Int32} {M : am_M} {Q : Option Value → am_H → Prop} : am_Wp d 85 28 [.int x0, .int x1, .int x2, .int x3, .int x4] [] (hp nS M) Q = am_Wp d 85 6 [.int x0, .int x1, .int x2, .int (x3 + 1), .int x4] [] (hp nS M) Q := by
  exact eq_run 2 (q := (6, [.int x0, .int x1, .int x2, .int (x3 + 1), .int x4], [], hp nS M)) (by with_unfolding_all rfl)
set_option maxRecDepth 20000 in
theorem b_85_34 {d nS : Nat} {x0 x1 x2 x3 : Int32} {zx4 : Value} {M : am_M} {Q : Option Value → am_H → Prop} : am_Wp d 85 34 [.int x0, .int x1, .int x2, .int x3, zx4] [] (hp nS M) Q = Q (some (.int x1)) (hp nS M) := by
  refine (eq_run 1 (q := (35, [.int x0, .int x1, .int x2, .int x3, zx4], [.int x1], hp nS M)) (by with_unfolding_all rfl)).trans ?_
  exact eq_retI2 (e := (.ireturn, 1, 0, 0, 0)) (t := .int) (by with_unfolding_all rfl) rfl (by with_unfolding_all rfl) rfl
-- LarkExchange$Sums songOfFifths(II)I (86, (None, None))
set_option maxRecDepth 20000 in
theorem b_86_0 {d nS : Nat} {x0 x1 : Int32} {M : am_M} {Q : Option Value → am_H → Prop} : am_Wp d 86 0 [.int x0, .int x1, .retAddr 0, .retAddr 0, .retAddr 0] [] (hp nS M) Q = am_Wp d 86 4 [.int x0, .int x1, .int 1, .int 0, .retAddr 0] [] (hp nS M) Q := by
  exact eq_run 4 (q := (4, [.int x0, .int x1, .int 1, .int 0, .retAddr 0], [], hp nS M)) (by with_unfolding_all rfl)
set_option maxRecDepth 20000 in
theorem b_86_4 {d nS : Nat} {x0 x1 x2 x3 : Int32} {M : am_M} {Q : Option Value → am_H → Prop} : am_Wp (d + 1) 86 4 [.int x0, .int x1, .int x2, .int x3, .retAddr 0] [] (hp nS M) Q = am_Wp d 298 0 [.int x0] [] (hp nS M) (fun v h1 => am_Wp (d + 1) 86 9 [.int x0, .int x1, .int x2, .int x3, .retAddr 0] (am_ans v [.int x3]) h1 Q) := by
  refine (eq_run 2 (q := (6, [.int x0, .int x1, .int x2, .int x3, .retAddr 0], [.int x0, .int x3], hp nS M)) (by with_unfolding_all rfl)).trans ?_
  exact eq_call2 (e := (.invokestatic 38, 3, 1, 298, 146)) (as := [.int x0]) (r := [.int x3]) (n := 1) (m := 1) (by with_unfolding_all rfl) rfl (by decide) (by with_unfolding_all rfl) (by decide) (by with_unfolding_all rfl) ⟨fun z => absurd z (by decide), fun z => by simp at z⟩
set_option maxRecDepth 20000 in
theorem b_86_9 {d nS : Nat} {x0 x1 x2 x3 s0 s1 : Int32} {M : am_M} {Q : Option Value → am_H → Prop} : am_Wp d 86 9 [.int x0, .int x1, .int x2, .int x3, .retAddr 0] [.int s1, .int s0] (hp nS M) Q = if s1 ≤ s0 then am_Wp d 86 22 [.int x0, .int x1, .int x2, .int x3, .retAddr 0] [] (hp nS M) Q else am_Wp d 86 12 [.int x0, .int x1, .int x2, .int x3, .retAddr 0] [] (hp nS M) Q := by
  exact eq_cmp_ge (by with_unfolding_all rfl)
set_option maxRecDepth 20000 in
theorem b_86_12 {d nS : Nat} {x0 x1 x2 x3 : Int32} {M : am_M} {Q : Option Value → am_H → Prop} : am_Wp d 86 12 [.int x0, .int x1, .int x2, .int x3, .retAddr 0] [] (hp nS M) Q = am_Wp d 86 4 [.int x0, .int x1, .int (x2 * 3), .int (x3 + 1), .retAddr 0] [] (hp nS M) Q := by
  exact eq_run 6 (q := (4, [.int x0, .int x1, .int (x2 * 3), .int (x3 + 1), .retAddr 0], [], hp nS M)) (by with_unfolding_all rfl)
set_option maxRecDepth 20000 in
theorem b_86_22 {d nS : Nat} {x0 x1 x2 x3 : Int32} {M : am_M} {Q : Option Value → am_H → Prop} : am_Wp d 86 22 [.int x0, .int x1, .int x2, .int x3, .retAddr 0] [] (hp nS M) Q = am_Wp d 86 27 [.int x0, .int x1, .int x2, .int 1, .int 0] [] (hp nS M) Q := by
  exact eq_run 4 (q := (27, [.int x0, .int x1, .int x2, .int 1, .int 0], [], hp nS M)) (by with_unfolding_all rfl)
set_option maxRecDepth 20000 in
theorem b_86_27 {d nS : Nat} {x0 x1 x2 x3 x4 : Int32} {M : am_M} {Q : Option Value → am_H → Prop} : am_Wp d 86 27 [.int x0, .int x1, .int x2, .int x3, .int x4] [] (hp nS M) Q = if 30 ≤ x4 then am_Wp d 86 51 [.int x0, .int x1, .int x2, .int x3, .int x4] [] (hp nS M) Q else am_Wp d 86 34 [.int x0, .int x1, .int x2, .int x3, .int x4] [] (hp nS M) Q := by
  refine (eq_run 2 (q := (31, [.int x0, .int x1, .int x2, .int x3, .int x4], [.int 30, .int x4], hp nS M)) (by with_unfolding_all rfl)).trans ?_
  exact eq_cmp_ge (by with_unfolding_all rfl)
set_option maxRecDepth 20000 in
theorem b_86_34 {d nS : Nat} {x0 x1 x2 x3 x4 : Int32} {M : am_M} {Q : Option Value → am_H → Prop} : am_Wp d 86 34 [.int x0, .int x1, .int x2, .int x3, .int x4] [] (hp nS M) Q = if x2 < (x3 * 2) then am_Wp d 86 51 [.int x0, .int x1, .int x2, .int x3, .int x4] [] (hp nS M) Q else am_Wp d 86 41 [.int x0, .int x1, .int x2, .int x3, .int x4] [] (hp nS M) Q := by
  refine (eq_run 4 (q := (38, [.int x0, .int x1, .int x2, .int x3, .int x4], [.int x2, .int (x3 * 2)], hp nS M)) (by with_unfolding_all rfl)).trans ?_
  exact eq_cmp_gt (by with_unfolding_all rfl)
set_option maxRecDepth 20000 in
theorem b_86_41 {d nS : Nat} {x0 x1 x2 x3 x4 : Int32} {M : am_M} {Q : Option Value → am_H → Prop} : am_Wp d 86 41 [.int x0, .int x1, .int x2, .int x3, .int x4] [] (hp nS M) Q = am_Wp d 86 27 [.int x0, .int x1, .int x2, .int (x3 * 2), .int (x4 + 1)] [] (hp nS M) Q := by
  exact eq_run 6 (q := (27, [.int x0, .int x1, .int x2, .int (x3 * 2), .int (x4 + 1)], [], hp nS M)) (by with_unfolding_all rfl)
set_option maxRecDepth 20000 in
theorem b_86_51 {d nS : Nat} {x0 x1 x2 x3 x4 : Int32} {M : am_M} {Q : Option Value → am_H → Prop} : am_Wp d 86 51 [.int x0, .int x1, .int x2, .int x3, .int x4] [] (hp nS M) Q = if 0 ≤ x0 then am_Wp d 86 67 [.int x0, .int x1, .int x2, .int x3, .int x4] [] (hp nS M) Q else am_Wp d 86 55 [.int x0, .int x1, .int x2, .int x3, .int x4] [] (hp nS M) Q := by
  refine (eq_run 1 (q := (52, [.int x0, .int x1, .int x2, .int x3, .int x4], [.int x0], hp nS M)) (by with_unfolding_all rfl)).trans ?_
  exact eq_if_ge (by with_unfolding_all rfl)
set_option maxRecDepth 20000 in
theorem b_86_55 {d nS : Nat} {x0 x1 x2 x3 x4 : Int32} {M : am_M} {Q : Option Value → am_H → Prop} : am_Wp d 86 55 [.int x0, .int x1, .int x2, .int x3, .int x4] [] (hp nS M) Q = if ¬ x1 = 0 then am_Wp d 86 65 [.int x0, .int x1, .int x2, .int x3, .int x4] [] (hp nS M) Q else am_Wp d 86 59 [.int x0, .int x1, .int x2, .int x3, .int x4] [] (hp nS M) Q := by
  refine (eq_run 1 (q := (56, [.int x0, .int x1, .int x2, .int x3, .int x4], [.int x1], hp nS M)) (by with_unfolding_all rfl)).trans ?_
  exact eq_if_ne (by with_unfolding_all rfl)
set_option maxRecDepth 20000 in
theorem b_86_59 {d nS : Nat} {x0 x1 x2 x3 x4 : Int32} {M : am_M} {Q : Option Value → am_H → Prop} : am_Wp d 86 59 [.int x0, .int x1, .int x2, .int x3, .int x4] [] (hp nS M) Q = am_Wp d 86 66 [.int x0, .int x1, .int x2, .int x3, .int x4] [.int (x3 * 2)] (hp nS M) Q := by
  exact eq_run 4 (q := (66, [.int x0, .int x1, .int x2, .int x3, .int x4], [.int (x3 * 2)], hp nS M)) (by with_unfolding_all rfl)
set_option maxRecDepth 20000 in
theorem b_86_65 {d nS : Nat} {x0 x1 x2 x3 x4 : Int32} {M : am_M} {Q : Option Value → am_H → Prop} : am_Wp d 86 65 [.int x0, .int x1, .int x2, .int x3, .int x4] [] (hp nS M) Q = am_Wp d 86 66 [.int x0, .int x1, .int x2, .int x3, .int x4] [.int x2] (hp nS M) Q := by
  exact eq_run 1 (q := (66, [.int x0, .int x1, .int x2, .int x3, .int x4], [.int x2], hp nS M)) (by with_unfolding_all rfl)
set_option maxRecDepth 20000 in
theorem b_86_66 {d nS : Nat} {x0 x1 x2 x3 x4 s0 : Int32} {M : am_M} {Q : Option Value → am_H → Prop} : am_Wp d 86 66 [.int x0, .int x1, .int x2, .int x3, .int x4] [.int s0] (hp nS M) Q = Q (some (.int s0)) (hp nS M) := by
  exact eq_retI2 (e := (.ireturn, 1, 0, 0, 0)) (t := .int) (by with_unfolding_all rfl) rfl (by with_unfolding_all rfl) rfl
set_option maxRecDepth 20000 in
theorem b_86_67 {d nS : Nat} {x0 x1 x2 x3 x4 : Int32} {M : am_M} {Q : Option Value → am_H → Prop} : am_Wp d 86 67 [.int x0, .int x1, .int x2, .int x3, .int x4] [] (hp nS M) Q = if ¬ x1 = 0 then am_Wp d 86 75 [.int x0, .int x1, .int x2, .int x3, .int x4] [] (hp nS M) Q else am_Wp d 86 71 [.int x0, .int x1, .int x2, .int x3, .int x4] [] (hp nS M) Q := by
  refine (eq_run 1 (q := (68, [.int x0, .int x1, .int x2, .int x3, .int x4], [.int x1], hp nS M)) (by with_unfolding_all rfl)).trans ?_
  exact eq_if_ne (by with_unfolding_all rfl)
set_option maxRecDepth 20000 in
theorem b_86_71 {d nS : Nat} {x0 x1 x2 x3 x4 : Int32} {M : am_M} {Q : Option Value → am_H → Prop} : am_Wp d 86 71 [.int x0, .int x1, .int x2, .int x3, .int x4] [] (hp nS M) Q = am_Wp d 86 76 [.int x0, .int x1, .int x2, .int x3, .int x4] [.int x2] (hp nS M) Q := by
  exact eq_run 2 (q := (76, [.int x0, .int x1, .int x2, .int x3, .int x4], [.int x2], hp nS M)) (by with_unfolding_all rfl)
set_option maxRecDepth 20000 in
theorem b_86_75 {d nS : Nat} {x0 x1 x2 x3 x4 : Int32} {M : am_M} {Q : Option Value → am_H → Prop} : am_Wp d 86 75 [.int x0, .int x1, .int x2, .int x3, .int x4] [] (hp nS M) Q = am_Wp d 86 76 [.int x0, .int x1, .int x2, .int x3, .int x4] [.int x3] (hp nS M) Q := by
  exact eq_run 1 (q := (76, [.int x0, .int x1, .int x2, .int x3, .int x4], [.int x3], hp nS M)) (by with_unfolding_all rfl)
set_option maxRecDepth 20000 in
theorem b_86_76 {d nS : Nat} {x0 x1 x2 x3 x4 s0 : Int32} {M : am_M} {Q : Option Value → am_H → Prop} : am_Wp d 86 76 [.int x0, .int x1, .int x2, .int x3, .int x4] [.int s0] (hp nS M) Q = Q (some (.int s0)) (hp nS M) := by
  exact eq_retI2 (e := (.ireturn, 1, 0, 0, 0)) (t := .int) (by with_unfolding_all rfl) rfl (by with_unfolding_all rfl) rfl
-- LarkExchange$Sums unlikeParts(I)I (87, (202, None))
set_option maxRecDepth 20000 in
theorem b_87_0 {d nS : Nat} {x1 : Int32} {M : am_M} {Q : Option Value → am_H → Prop} : am_Wp (d + 1) 87 0 [.ref 202, .int x1, .retAddr 0, .retAddr 0] [] (hp nS M) Q = am_Wp d 299 0 [.ref 203, .int 0, .retAddr 0, .retAddr 0] [] (hp nS M) (fun v h1 => am_Wp (d + 1) 87 8 [.ref 202, .int x1, .retAddr 0, .retAddr 0] (am_ans v []) h1 Q) := by
  refine (eq_run 3 (q := (5, [.ref 202, .int x1, .retAddr 0, .retAddr 0], [.int 0, .ref 203], hp nS M)) (by with_unfolding_all rfl)).trans ?_
  exact eq_call2 (e := (.invokestatic 43, 3, 1, 299, 147)) (as := [.ref 203, .int 0]) (r := []) (n := 2) (m := 4) (by with_unfolding_all rfl) rfl (by decide) (by with_unfolding_all rfl) (by decide) (by with_unfolding_all rfl) ⟨fun z => absurd z (by decide), fun z => by simp at z⟩
set_option maxRecDepth 20000 in
theorem b_87_8 {d nS : Nat} {x1 : Int32} {M : am_M} {Q : Option Value → am_H → Prop} : am_Wp d 87 8 [.ref 202, .int x1, .retAddr 0, .retAddr 0] [] (hp nS M) Q = am_Wp d 87 17 [.ref 202, .int x1, .int 1, .retAddr 0] [] (hp nS (am_up M 203 0 1)) Q := by
  exact eq_run 7 (q := (17, [.ref 202, .int x1, .int 1, .retAddr 0], [], hp nS (am_up M 203 0 1))) (by with_unfolding_all rfl)
set_option maxRecDepth 20000 in
theorem b_87_17 {d nS : Nat} {x1 x2 : Int32} {zx3 : Value} {M : am_M} {Q : Option Value → am_H → Prop} : am_Wp d 87 17 [.ref 202, .int x1, .int x2, zx3] [] (hp nS M) Q = if x1 < x2 then am_Wp d 87 58 [.ref 202, .int x1, .int x2, zx3] [] (hp nS M) Q else am_Wp d 87 22 [.ref 202, .int x1, .int x2, zx3] [] (hp nS M) Q := by
  refine (eq_run 2 (q := (19, [.ref 202, .int x1, .int x2, zx3], [.int x1, .int x2], hp nS M)) (by with_unfolding_all rfl)).trans ?_
  exact eq_cmp_gt (by with_unfolding_all rfl)
set_option maxRecDepth 20000 in
theorem b_87_22 {d nS : Nat} {x1 x2 : Int32} {zx3 : Value} {M : am_M} {Q : Option Value → am_H → Prop} : am_Wp d 87 22 [.ref 202, .int x1, .int x2, zx3] [] (hp nS M) Q = am_Wp d 87 24 [.ref 202, .int x1, .int x2, .int x1] [] (hp nS M) Q := by
  exact eq_run 2 (q := (24, [.ref 202, .int x1, .int x2, .int x1], [], hp nS M)) (by with_unfolding_all rfl)
set_option maxRecDepth 20000 in
theorem b_87_24 {d nS : Nat} {x1 x2 x3 : Int32} {M : am_M} {Q : Option Value → am_H → Prop} : am_Wp d 87 24 [.ref 202, .int x1, .int x2, .int x3] [] (hp nS M) Q = if x3 < x2 then am_Wp d 87 52 [.ref 202, .int x1, .int x2, .int x3] [] (hp nS M) Q else am_Wp d 87 29 [.ref 202, .int x1, .int x2, .int x3] [] (hp nS M) Q := by
  refine (eq_run 2 (q := (26, [.ref 202, .int x1, .int x2, .int x3], [.int x2, .int x3], hp nS M)) (by with_unfolding_all rfl)).trans ?_
  exact eq_cmp_lt (by with_unfolding_all rfl)
set_option maxRecDepth 20000 in
theorem b_87_29 {d nS : Nat} {x1 x2 x3 : Int32} {M : am_M} {Q : Option Value → am_H → Prop} (h1 : vp_in x3 61) (h2 : vp_in (x3 - x2) 61) (h3 : vp_in x3 61) : am_Wp d 87 29 [.ref 202, .int x1, .int x2, .int x3] [] (hp nS M) Q = am_Wp d 87 24 [.ref 202, .int x1, .int x2, .int (x3 + (-1))] [] (hp nS (am_up M 203 x3.toNatClampNeg ((M 203 x3.toNatClampNeg) + (M 203 (x3 - x2).toNatClampNeg)))) Q := by
  refine (eq_run 4 (q := (35, [.ref 202, .int x1, .int x2, .int x3], [.int x3, .ref 203, .int x3, .ref 203], hp nS M)) (by with_unfolding_all rfl)).trans ?_
  refine (eq_ald (e := (.iaload, 1, 0, 0, 0)) (by with_unfolding_all rfl) rfl (n := 61) (by with_unfolding_all rfl) h1).trans ?_
  refine (eq_run 5 (q := (43, [.ref 202, .int x1, .int x2, .int x3], [.int (x3 - x2), .ref 203, .int (M 203 x3.toNatClampNeg), .int x3, .ref 203], hp nS M)) (by with_unfolding_all rfl)).trans ?_
  refine (eq_ald (e := (.iaload, 1, 0, 0, 0)) (by with_unfolding_all rfl) rfl (n := 61) (by with_unfolding_all rfl) h2).trans ?_
  refine (eq_run 1 (q := (45, [.ref 202, .int x1, .int x2, .int x3], [.int ((M 203 x3.toNatClampNeg) + (M 203 (x3 - x2).toNatClampNeg)), .int x3, .ref 203], hp nS M)) (by with_unfolding_all rfl)).trans ?_
  refine (eq_ast (e := (.iastore, 1, 0, 0, 0)) (by with_unfolding_all rfl) rfl (n := 61) (by with_unfolding_all rfl) (by decide) h3).trans ?_
  exact eq_run 2 (q := (24, [.ref 202, .int x1, .int x2, .int (x3 + (-1))], [], hp nS (am_up M 203 x3.toNatClampNeg ((M 203 x3.toNatClampNeg) + (M 203 (x3 - x2).toNatClampNeg))))) (by with_unfolding_all rfl)
set_option maxRecDepth 20000 in
theorem b_87_52 {d nS : Nat} {x1 x2 x3 : Int32} {M : am_M} {Q : Option Value → am_H → Prop} : am_Wp d 87 52 [.ref 202, .int x1, .int x2, .int x3] [] (hp nS M) Q = am_Wp d 87 17 [.ref 202, .int x1, .int (x2 + 1), .int x3] [] (hp nS M) Q := by
  exact eq_run 2 (q := (17, [.ref 202, .int x1, .int (x2 + 1), .int x3], [], hp nS M)) (by with_unfolding_all rfl)
set_option maxRecDepth 20000 in
theorem b_87_58 {d nS : Nat} {x1 x2 : Int32} {zx3 : Value} {M : am_M} {Q : Option Value → am_H → Prop} (h1 : vp_in x1 61) : am_Wp d 87 58 [.ref 202, .int x1, .int x2, zx3] [] (hp nS M) Q = Q (some (.int (M 203 x1.toNatClampNeg))) (hp nS M) := by
  refine (eq_run 3 (q := (63, [.ref 202, .int x1, .int x2, zx3], [.int x1, .ref 203], hp nS M)) (by with_unfolding_all rfl)).trans ?_
  refine (eq_ald (e := (.iaload, 1, 0, 0, 0)) (by with_unfolding_all rfl) rfl (n := 61) (by with_unfolding_all rfl) h1).trans ?_
  exact eq_retI2 (e := (.ireturn, 1, 0, 0, 0)) (t := .int) (by with_unfolding_all rfl) rfl (by with_unfolding_all rfl) rfl
-- LarkExchange$Sums partsBy(III)I (88, (202, None, None, None))
set_option maxRecDepth 20000 in
theorem b_88_0 {d nS : Nat} {x1 x2 x3 : Int32} {M : am_M} {Q : Option Value → am_H → Prop} : am_Wp (d + 1) 88 0 [.ref 202, .int x1, .int x2, .int x3, .retAddr 0, .retAddr 0] [] (hp nS M) Q = am_Wp d 299 0 [.ref 203, .int 0, .retAddr 0, .retAddr 0] [] (hp nS M) (fun v h1 => am_Wp (d + 1) 88 8 [.ref 202, .int x1, .int x2, .int x3, .retAddr 0, .retAddr 0] (am_ans v []) h1 Q) := by
  refine (eq_run 3 (q := (5, [.ref 202, .int x1, .int x2, .int x3, .retAddr 0, .retAddr 0], [.int 0, .ref 203], hp nS M)) (by with_unfolding_all rfl)).trans ?_
  exact eq_call2 (e := (.invokestatic 43, 3, 1, 299, 147)) (as := [.ref 203, .int 0]) (r := []) (n := 2) (m := 4) (by with_unfolding_all rfl) rfl (by decide) (by with_unfolding_all rfl) (by decide) (by with_unfolding_all rfl) ⟨fun z => absurd z (by decide), fun z => by simp at z⟩
set_option maxRecDepth 20000 in
theorem b_88_8 {d nS : Nat} {x1 x2 x3 : Int32} {M : am_M} {Q : Option Value → am_H → Prop} : am_Wp d 88 8 [.ref 202, .int x1, .int x2, .int x3, .retAddr 0, .retAddr 0] [] (hp nS M) Q = am_Wp d 88 18 [.ref 202, .int x1, .int x2, .int x3, .int 1, .retAddr 0] [] (hp nS (am_up M 203 0 1)) Q := by
  exact eq_run 7 (q := (18, [.ref 202, .int x1, .int x2, .int x3, .int 1, .retAddr 0], [], hp nS (am_up M 203 0 1))) (by with_unfolding_all rfl)
set_option maxRecDepth 20000 in
theorem b_88_18 {d nS : Nat} {x1 x2 x3 x4 : Int32} {zx5 : Value} {M : am_M} {Q : Option Value → am_H → Prop} : am_Wp d 88 18 [.ref 202, .int x1, .int x2, .int x3, .int x4, zx5] [] (hp nS M) Q = if x2 < x4 then am_Wp d 88 77 [.ref 202, .int x1, .int x2, .int x3, .int x4, zx5] [] (hp nS M) Q else am_Wp d 88 24 [.ref 202, .int x1, .int x2, .int x3, .int x4, zx5] [] (hp nS M) Q := by
  refine (eq_run 2 (q := (21, [.ref 202, .int x1, .int x2, .int x3, .int x4, zx5], [.int x2, .int x4], hp nS M)) (by with_unfolding_all rfl)).trans ?_
  exact eq_cmp_gt (by with_unfolding_all rfl)
set_option maxRecDepth 20000 in
theorem b_88_24 {d nS : Nat} {x1 x2 x3 x4 : Int32} {zx5 : Value} {M : am_M} {Q : Option Value → am_H → Prop} : am_Wp d 88 24 [.ref 202, .int x1, .int x2, .int x3, .int x4, zx5] [] (hp nS M) Q = am_Wp d 88 28 [.ref 202, .int x1, .int x2, .int x3, .int x4, .int x4] [] (hp nS M) Q := by
  exact eq_run 2 (q := (28, [.ref 202, .int x1, .int x2, .int x3, .int x4, .int x4], [], hp nS M)) (by with_unfolding_all rfl)
set_option maxRecDepth 20000 in
theorem b_88_28 {d nS : Nat} {x1 x2 x3 x4 x5 : Int32} {M : am_M} {Q : Option Value → am_H → Prop} : am_Wp d 88 28 [.ref 202, .int x1, .int x2, .int x3, .int x4, .int x5] [] (hp nS M) Q = if x1 < x5 then am_Wp d 88 60 [.ref 202, .int x1, .int x2, .int x3, .int x4, .int x5] [] (hp nS M) Q else am_Wp d 88 34 [.ref 202, .int x1, .int x2, .int x3, .int x4, .int x5] [] (hp nS M) Q := by
  refine (eq_run 2 (q := (31, [.ref 202, .int x1, .int x2, .int x3, .int x4, .int x5], [.int x1, .int x5], hp nS M)) (by with_unfolding_all rfl)).trans ?_
  exact eq_cmp_gt (by with_unfolding_all rfl)
set_option maxRecDepth 20000 in
theorem b_88_34 {d nS : Nat} {x1 x2 x3 x4 x5 : Int32} {M : am_M} {Q : Option Value → am_H → Prop} (h1 : vp_in x5 61) (h2 : vp_in (x5 - x4) 61) (h3 : vp_in x5 61) : am_Wp d 88 34 [.ref 202, .int x1, .int x2, .int x3, .int x4, .int x5] [] (hp nS M) Q = am_Wp d 88 28 [.ref 202, .int x1, .int x2, .int x3, .int x4, .int (x5 + 1)] [] (hp nS (am_up M 203 x5.toNatClampNeg ((M 203 x5.toNatClampNeg) + (M 203 (x5 - x4).toNatClampNeg)))) Q := by
  refine (eq_run 4 (q := (41, [.ref 202, .int x1, .int x2, .int x3, .int x4, .int x5], [.int x5, .ref 203, .int x5, .ref 203], hp nS M)) (by with_unfolding_all rfl)).trans ?_
  refine (eq_ald (e := (.iaload, 1, 0, 0, 0)) (by with_unfolding_all rfl) rfl (n := 61) (by with_unfolding_all rfl) h1).trans ?_
  refine (eq_run 5 (q := (51, [.ref 202, .int x1, .int x2, .int x3, .int x4, .int x5], [.int (x5 - x4), .ref 203, .int (M 203 x5.toNatClampNeg), .int x5, .ref 203], hp nS M)) (by with_unfolding_all rfl)).trans ?_
  refine (eq_ald (e := (.iaload, 1, 0, 0, 0)) (by with_unfolding_all rfl) rfl (n := 61) (by with_unfolding_all rfl) h2).trans ?_
  refine (eq_run 1 (q := (53, [.ref 202, .int x1, .int x2, .int x3, .int x4, .int x5], [.int ((M 203 x5.toNatClampNeg) + (M 203 (x5 - x4).toNatClampNeg)), .int x5, .ref 203], hp nS M)) (by with_unfolding_all rfl)).trans ?_
  refine (eq_ast (e := (.iastore, 1, 0, 0, 0)) (by with_unfolding_all rfl) rfl (n := 61) (by with_unfolding_all rfl) (by decide) h3).trans ?_
  exact eq_run 2 (q := (28, [.ref 202, .int x1, .int x2, .int x3, .int x4, .int (x5 + 1)], [], hp nS (am_up M 203 x5.toNatClampNeg ((M 203 x5.toNatClampNeg) + (M 203 (x5 - x4).toNatClampNeg))))) (by with_unfolding_all rfl)
set_option maxRecDepth 20000 in
theorem b_88_60 {d nS : Nat} {x1 x2 x3 x4 x5 : Int32} {M : am_M} {Q : Option Value → am_H → Prop} : am_Wp d 88 60 [.ref 202, .int x1, .int x2, .int x3, .int x4, .int x5] [] (hp nS M) Q = if x3 = 0 then am_Wp d 88 70 [.ref 202, .int x1, .int x2, .int x3, .int x4, .int x5] [.int x4] (hp nS M) Q else am_Wp d 88 66 [.ref 202, .int x1, .int x2, .int x3, .int x4, .int x5] [.int x4] (hp nS M) Q := by
  refine (eq_run 2 (q := (63, [.ref 202, .int x1, .int x2, .int x3, .int x4, .int x5], [.int x3, .int x4], hp nS M)) (by with_unfolding_all rfl)).trans ?_
  exact eq_if_eq (by with_unfolding_all rfl)
-- LarkExchange$Sums firstSending(III)I (89, (202, None, None, None))
set_option maxRecDepth 20000 in
theorem b_89_0 {d nS : Nat} {x1 x2 x3 : Int32} {M : am_M} {Q : Option Value → am_H → Prop} : am_Wp d 89 0 [.ref 202, .int x1, .int x2, .int x3, .retAddr 0, .retAddr 0] [] (hp nS M) Q = am_Wp d 89 5 [.ref 202, .int x1, .int x2, .int x3, .int (x2 - 1), .retAddr 0] [] (hp nS M) Q := by
  exact eq_run 4 (q := (5, [.ref 202, .int x1, .int x2, .int x3, .int (x2 - 1), .retAddr 0], [], hp nS M)) (by with_unfolding_all rfl)
set_option maxRecDepth 20000 in
theorem b_89_5 {d nS : Nat} {x1 x2 x3 x4 : Int32} {zx5 : Value} {M : am_M} {Q : Option Value → am_H → Prop} : am_Wp d 89 5 [.ref 202, .int x1, .int x2, .int x3, .int x4, zx5] [] (hp nS M) Q = if x4 < x1 then am_Wp d 89 68 [.ref 202, .int x1, .int x2, .int x3, .int x4, zx5] [] (hp nS M) Q else am_Wp d 89 11 [.ref 202, .int x1, .int x2, .int x3, .int x4, zx5] [] (hp nS M) Q := by
  refine (eq_run 2 (q := (8, [.ref 202, .int x1, .int x2, .int x3, .int x4, zx5], [.int x1, .int x4], hp nS M)) (by with_unfolding_all rfl)).trans ?_
  exact eq_cmp_lt (by with_unfolding_all rfl)
set_option maxRecDepth 20000 in
theorem b_89_11 {d nS : Nat} {x1 x2 x3 x4 : Int32} {zx5 : Value} {M : am_M} {Q : Option Value → am_H → Prop} (h1 : vp_in x4 101) : am_Wp d 89 11 [.ref 202, .int x1, .int x2, .int x3, .int x4, zx5] [] (hp nS M) Q = am_Wp d 89 22 [.ref 202, .int x1, .int x2, .int x3, .int x4, .int 0] [] (hp nS (am_up M 204 x4.toNatClampNeg 0)) Q := by
  refine (eq_run 4 (q := (18, [.ref 202, .int x1, .int x2, .int x3, .int x4, zx5], [.int 0, .int x4, .ref 204], hp nS M)) (by with_unfolding_all rfl)).trans ?_
  refine (eq_ast (e := (.iastore, 1, 0, 0, 0)) (by with_unfolding_all rfl) rfl (n := 101) (by with_unfolding_all rfl) (by decide) h1).trans ?_
  exact eq_run 2 (q := (22, [.ref 202, .int x1, .int x2, .int x3, .int x4, .int 0], [], hp nS (am_up M 204 x4.toNatClampNeg 0))) (by with_unfolding_all rfl)
set_option maxRecDepth 20000 in
theorem b_89_22 {d nS : Nat} {x1 x2 x3 x4 x5 : Int32} {M : am_M} {Q : Option Value → am_H → Prop} : am_Wp d 89 22 [.ref 202, .int x1, .int x2, .int x3, .int x4, .int x5] [] (hp nS M) Q = if x3 < x5 then am_Wp d 89 62 [.ref 202, .int x1, .int x2, .int x3, .int x4, .int x5] [] (hp nS M) Q else am_Wp d 89 28 [.ref 202, .int x1, .int x2, .int x3, .int x4, .int x5] [] (hp nS M) Q := by
  refine (eq_run 2 (q := (25, [.ref 202, .int x1, .int x2, .int x3, .int x4, .int x5], [.int x3, .int x5], hp nS M)) (by with_unfolding_all rfl)).trans ?_
  exact eq_cmp_gt (by with_unfolding_all rfl)
set_option maxRecDepth 20000 in
theorem b_89_28 {d nS : Nat} {x1 x2 x3 x4 x5 : Int32} {M : am_M} {Q : Option Value → am_H → Prop} : am_Wp (d + 1) 89 28 [.ref 202, .int x1, .int x2, .int x3, .int x4, .int x5] [] (hp nS M) Q = am_Wp d 90 0 [.ref 202, .int x4, .int x2, .int x3, .int x5, .retAddr 0] [] (hp nS M) (fun v h1 => am_Wp (d + 1) 89 38 [.ref 202, .int x1, .int x2, .int x3, .int x4, .int x5] (am_ans v []) h1 Q) := by
  refine (eq_run 5 (q := (35, [.ref 202, .int x1, .int x2, .int x3, .int x4, .int x5], [.int x5, .int x3, .int x2, .int x4, .ref 202], hp nS M)) (by with_unfolding_all rfl)).trans ?_
  exact eq_call2 (e := (.invokevirtual 49, 3, 0, 90, 148)) (as := [.ref 202, .int x4, .int x2, .int x3, .int x5]) (r := []) (n := 5) (m := 6) (by with_unfolding_all rfl) rfl (by decide) (by with_unfolding_all rfl) (by decide) (by with_unfolding_all rfl) ⟨fun _ => am_rec_ok (c := 10) (by with_unfolding_all rfl) (by decide +kernel), fun z => by simp at z⟩
set_option maxRecDepth 20000 in
theorem b_89_38 {d nS : Nat} {x1 x2 x3 x4 x5 s0 : Int32} {M : am_M} {Q : Option Value → am_H → Prop} : am_Wp d 89 38 [.ref 202, .int x1, .int x2, .int x3, .int x4, .int x5] [.int s0] (hp nS M) Q = if s0 = (-1) then am_Wp d 89 56 [.ref 202, .int x1, .int x2, .int x3, .int x4, .int x5] [] (hp nS M) Q else am_Wp d 89 42 [.ref 202, .int x1, .int x2, .int x3, .int x4, .int x5] [] (hp nS M) Q := by
  refine (eq_run 1 (q := (39, [.ref 202, .int x1, .int x2, .int x3, .int x4, .int x5], [.int (-1), .int s0], hp nS M)) (by with_unfolding_all rfl)).trans ?_
  exact eq_cmp_eq (by with_unfolding_all rfl)
set_option maxRecDepth 20000 in
theorem b_89_42 {d nS : Nat} {x1 x2 x3 x4 x5 : Int32} {M : am_M} {Q : Option Value → am_H → Prop} (h1 : vp_in x4 101) (h2 : vp_in x4 101) : am_Wp d 89 42 [.ref 202, .int x1, .int x2, .int x3, .int x4, .int x5] [] (hp nS M) Q = am_Wp d 89 56 [.ref 202, .int x1, .int x2, .int x3, .int x4, .int x5] [] (hp nS (am_up M 204 x4.toNatClampNeg ((M 204 x4.toNatClampNeg) ||| (1 <<< (x5 &&& 31))))) Q := by
  refine (eq_run 4 (q := (49, [.ref 202, .int x1, .int x2, .int x3, .int x4, .int x5], [.int x4, .ref 204, .int x4, .ref 204], hp nS M)) (by with_unfolding_all rfl)).trans ?_
  refine (eq_ald (e := (.iaload, 1, 0, 0, 0)) (by with_unfolding_all rfl) rfl (n := 101) (by with_unfolding_all rfl) h1).trans ?_
  refine (eq_run 4 (q := (55, [.ref 202, .int x1, .int x2, .int x3, .int x4, .int x5], [.int ((M 204 x4.toNatClampNeg) ||| (1 <<< (x5 &&& 31))), .int x4, .ref 204], hp nS M)) (by with_unfolding_all rfl)).trans ?_
  exact eq_ast (e := (.iastore, 1, 0, 0, 0)) (by with_unfolding_all rfl) rfl (n := 101) (by with_unfolding_all rfl) (by decide) h2
set_option maxRecDepth 20000 in
theorem b_89_56 {d nS : Nat} {x1 x2 x3 x4 x5 : Int32} {M : am_M} {Q : Option Value → am_H → Prop} : am_Wp d 89 56 [.ref 202, .int x1, .int x2, .int x3, .int x4, .int x5] [] (hp nS M) Q = am_Wp d 89 22 [.ref 202, .int x1, .int x2, .int x3, .int x4, .int (x5 + 1)] [] (hp nS M) Q := by
  exact eq_run 2 (q := (22, [.ref 202, .int x1, .int x2, .int x3, .int x4, .int (x5 + 1)], [], hp nS M)) (by with_unfolding_all rfl)
set_option maxRecDepth 20000 in
theorem b_89_62 {d nS : Nat} {x1 x2 x3 x4 x5 : Int32} {M : am_M} {Q : Option Value → am_H → Prop} : am_Wp d 89 62 [.ref 202, .int x1, .int x2, .int x3, .int x4, .int x5] [] (hp nS M) Q = am_Wp d 89 5 [.ref 202, .int x1, .int x2, .int x3, .int (x4 + (-1)), .int x5] [] (hp nS M) Q := by
  exact eq_run 2 (q := (5, [.ref 202, .int x1, .int x2, .int x3, .int (x4 + (-1)), .int x5], [], hp nS M)) (by with_unfolding_all rfl)
set_option maxRecDepth 20000 in
theorem b_89_68 {d nS : Nat} {x1 x2 x3 x4 : Int32} {zx5 : Value} {M : am_M} {Q : Option Value → am_H → Prop} : am_Wp (d + 1) 89 68 [.ref 202, .int x1, .int x2, .int x3, .int x4, zx5] [] (hp nS M) Q = am_Wp d 90 0 [.ref 202, .int x1, .int x2, .int x3, .int 0, .retAddr 0] [] (hp nS M) (fun v h1 => am_Wp (d + 1) 89 76 [.ref 202, .int x1, .int x2, .int x3, .int x4, zx5] (am_ans v []) h1 Q) := by
  refine (eq_run 5 (q := (73, [.ref 202, .int x1, .int x2, .int x3, .int x4, zx5], [.int 0, .int x3, .int x2, .int x1, .ref 202], hp nS M)) (by with_unfolding_all rfl)).trans ?_
  exact eq_call2 (e := (.invokevirtual 49, 3, 0, 90, 148)) (as := [.ref 202, .int x1, .int x2, .int x3, .int 0]) (r := []) (n := 5) (m := 6) (by with_unfolding_all rfl) rfl (by decide) (by with_unfolding_all rfl) (by decide) (by with_unfolding_all rfl) ⟨fun _ => am_rec_ok (c := 10) (by with_unfolding_all rfl) (by decide +kernel), fun z => by simp at z⟩
set_option maxRecDepth 20000 in
theorem b_89_76 {d nS : Nat} {x1 x2 x3 x4 s0 : Int32} {zx5 : Value} {M : am_M} {Q : Option Value → am_H → Prop} : am_Wp d 89 76 [.ref 202, .int x1, .int x2, .int x3, .int x4, zx5] [.int s0] (hp nS M) Q = Q (some (.int s0)) (hp nS M) := by
  exact eq_retI2 (e := (.ireturn, 1, 0, 0, 0)) (t := .int) (by with_unfolding_all rfl) rfl (by with_unfolding_all rfl) rfl
-- LarkExchange$Sums winningSending(IIII)I (90, (202, None, None, None, None))
set_option maxRecDepth 20000 in
theorem b_90_0 {d nS : Nat} {x1 x2 x3 x4 : Int32} {M : am_M} {Q : Option Value → am_H → Prop} : am_Wp d 90 0 [.ref 202, .int x1, .int x2, .int x3, .int x4, .retAddr 0] [] (hp nS M) Q = am_Wp d 90 3 [.ref 202, .int x1, .int x2, .int x3, .int x4, .int 1] [] (hp nS M) Q := by
  exact eq_run 2 (q := (3, [.ref 202, .int x1, .int x2, .int x3, .int x4, .int 1], [], hp nS M)) (by with_unfolding_all rfl)
set_option maxRecDepth 20000 in
theorem b_90_3 {d nS : Nat} {x1 x2 x3 x4 x5 : Int32} {M : am_M} {Q : Option Value → am_H → Prop} : am_Wp d 90 3 [.ref 202, .int x1, .int x2, .int x3, .int x4, .int x5] [] (hp nS M) Q = if x3 < x5 then am_Wp d 90 50 [.ref 202, .int x1, .int x2, .int x3, .int x4, .int x5] [] (hp nS M) Q else am_Wp d 90 9 [.ref 202, .int x1, .int x2, .int x3, .int x4, .int x5] [] (hp nS M) Q := by
  refine (eq_run 2 (q := (6, [.ref 202, .int x1, .int x2, .int x3, .int x4, .int x5], [.int x3, .int x5], hp nS M)) (by with_unfolding_all rfl)).trans ?_
  exact eq_cmp_gt (by with_unfolding_all rfl)
set_option maxRecDepth 20000 in
theorem b_90_9 {d nS : Nat} {x1 x2 x3 x4 x5 : Int32} {M : am_M} {Q : Option Value → am_H → Prop} : am_Wp d 90 9 [.ref 202, .int x1, .int x2, .int x3, .int x4, .int x5] [] (hp nS M) Q = if x2 ≤ (x1 + x5) then am_Wp d 90 50 [.ref 202, .int x1, .int x2, .int x3, .int x4, .int x5] [] (hp nS M) Q else am_Wp d 90 17 [.ref 202, .int x1, .int x2, .int x3, .int x4, .int x5] [] (hp nS M) Q := by
  refine (eq_run 4 (q := (14, [.ref 202, .int x1, .int x2, .int x3, .int x4, .int x5], [.int x2, .int (x1 + x5)], hp nS M)) (by with_unfolding_all rfl)).trans ?_
  exact eq_cmp_ge (by with_unfolding_all rfl)
set_option maxRecDepth 20000 in
theorem b_90_17 {d nS : Nat} {x1 x2 x3 x4 x5 : Int32} {M : am_M} {Q : Option Value → am_H → Prop} : am_Wp d 90 17 [.ref 202, .int x1, .int x2, .int x3, .int x4, .int x5] [] (hp nS M) Q = if x5 = x4 then am_Wp d 90 44 [.ref 202, .int x1, .int x2, .int x3, .int x4, .int x5] [] (hp nS M) Q else am_Wp d 90 24 [.ref 202, .int x1, .int x2, .int x3, .int x4, .int x5] [] (hp nS M) Q := by
  refine (eq_run 2 (q := (21, [.ref 202, .int x1, .int x2, .int x3, .int x4, .int x5], [.int x4, .int x5], hp nS M)) (by with_unfolding_all rfl)).trans ?_
  exact eq_cmp_eq (by with_unfolding_all rfl)
set_option maxRecDepth 20000 in
theorem b_90_24 {d nS : Nat} {x1 x2 x3 x4 x5 : Int32} {M : am_M} {Q : Option Value → am_H → Prop} (h1 : vp_in (x1 + x5) 101) : am_Wp d 90 24 [.ref 202, .int x1, .int x2, .int x3, .int x4, .int x5] [] (hp nS M) Q = if ¬ (((M 204 (x1 + x5).toNatClampNeg) >>> (x5 &&& 31)) &&& 1) = 0 then am_Wp d 90 44 [.ref 202, .int x1, .int x2, .int x3, .int x4, .int x5] [] (hp nS M) Q else am_Wp d 90 41 [.ref 202, .int x1, .int x2, .int x3, .int x4, .int x5] [] (hp nS M) Q := by
  refine (eq_run 5 (q := (32, [.ref 202, .int x1, .int x2, .int x3, .int x4, .int x5], [.int (x1 + x5), .ref 204], hp nS M)) (by with_unfolding_all rfl)).trans ?_
  refine (eq_ald (e := (.iaload, 1, 0, 0, 0)) (by with_unfolding_all rfl) rfl (n := 101) (by with_unfolding_all rfl) h1).trans ?_
  refine (eq_run 4 (q := (38, [.ref 202, .int x1, .int x2, .int x3, .int x4, .int x5], [.int (((M 204 (x1 + x5).toNatClampNeg) >>> (x5 &&& 31)) &&& 1)], hp nS M)) (by with_unfolding_all rfl)).trans ?_
  exact eq_if_ne (by with_unfolding_all rfl)
set_option maxRecDepth 20000 in
theorem b_90_41 {d nS : Nat} {x1 x2 x3 x4 x5 : Int32} {M : am_M} {Q : Option Value → am_H → Prop} : am_Wp d 90 41 [.ref 202, .int x1, .int x2, .int x3, .int x4, .int x5] [] (hp nS M) Q = Q (some (.int x5)) (hp nS M) := by
  refine (eq_run 1 (q := (43, [.ref 202, .int x1, .int x2, .int x3, .int x4, .int x5], [.int x5], hp nS M)) (by with_unfolding_all rfl)).trans ?_
  exact eq_retI2 (e := (.ireturn, 1, 0, 0, 0)) (t := .int) (by with_unfolding_all rfl) rfl (by with_unfolding_all rfl) rfl
set_option maxRecDepth 20000 in
theorem b_90_44 {d nS : Nat} {x1 x2 x3 x4 x5 : Int32} {M : am_M} {Q : Option Value → am_H → Prop} : am_Wp d 90 44 [.ref 202, .int x1, .int x2, .int x3, .int x4, .int x5] [] (hp nS M) Q = am_Wp d 90 3 [.ref 202, .int x1, .int x2, .int x3, .int x4, .int (x5 + 1)] [] (hp nS M) Q := by
  exact eq_run 2 (q := (3, [.ref 202, .int x1, .int x2, .int x3, .int x4, .int (x5 + 1)], [], hp nS M)) (by with_unfolding_all rfl)
set_option maxRecDepth 20000 in
theorem b_90_50 {d nS : Nat} {x1 x2 x3 x4 x5 : Int32} {M : am_M} {Q : Option Value → am_H → Prop} : am_Wp d 90 50 [.ref 202, .int x1, .int x2, .int x3, .int x4, .int x5] [] (hp nS M) Q = Q (some (.int (-1))) (hp nS M) := by
  refine (eq_run 1 (q := (51, [.ref 202, .int x1, .int x2, .int x3, .int x4, .int x5], [.int (-1)], hp nS M)) (by with_unfolding_all rfl)).trans ?_
  exact eq_retI2 (e := (.ireturn, 1, 0, 0, 0)) (t := .int) (by with_unfolding_all rfl) rfl (by with_unfolding_all rfl) rfl
-- LarkExchange$Town buys(LLarkExchange$World;IIIZ)V (92, (17, 18, None, None, None, None))
set_option maxRecDepth 20000 in
theorem b_92_0 {d nS : Nat} {x2 x3 x4 x5 : Int32} {M : am_M} {Q : Option Value → am_H → Prop} : am_Wp (d + 1) 92 0 [.ref 17, .ref 18, .int x2, .int x3, .int x4, .int x5, .retAddr 0] [] (hp nS M) Q = am_Wp d 109 0 [.ref 18, .int x2, .int x3, .retAddr 0] [] (hp nS M) (fun v h1 => am_Wp (d + 1) 92 8 [.ref 17, .ref 18, .int x2, .int x3, .int x4, .int x5, .retAddr 0] (am_ans v [.int x4]) h1 Q) := by
  refine (eq_run 4 (q := (5, [.ref 17, .ref 18, .int x2, .int x3, .int x4, .int x5, .retAddr 0], [.int x3, .int x2, .ref 18, .int x4], hp nS M)) (by with_unfolding_all rfl)).trans ?_
  exact eq_call2 (e := (.invokevirtual 181, 3, 0, 109, 180)) (as := [.ref 18, .int x2, .int x3]) (r := [.int x4]) (n := 3) (m := 4) (by with_unfolding_all rfl) rfl (by decide) (by with_unfolding_all rfl) (by decide) (by with_unfolding_all rfl) ⟨fun _ => am_rec_ok (c := 12) (by with_unfolding_all rfl) (by decide +kernel), fun z => by simp at z⟩
set_option maxRecDepth 20000 in
theorem b_92_8 {d nS : Nat} {x2 x3 x4 x5 s0 s1 : Int32} {M : am_M} {Q : Option Value → am_H → Prop} : am_Wp (d + 1) 92 8 [.ref 17, .ref 18, .int x2, .int x3, .int x4, .int x5, .retAddr 0] [.int s1, .int s0] (hp nS M) Q = am_Wp d 296 0 [.int s0, .int s1] [] (hp nS M) (fun v h1 => am_Wp (d + 1) 92 11 [.ref 17, .ref 18, .int x2, .int x3, .int x4, .int x5, .retAddr 0] (am_ans v []) h1 Q) := by
  exact eq_call2 (e := (.invokestatic 131, 3, 1, 296, 170)) (as := [.int s0, .int s1]) (r := []) (n := 2) (m := 2) (by with_unfolding_all rfl) rfl (by decide) (by with_unfolding_all rfl) (by decide) (by with_unfolding_all rfl) ⟨fun z => absurd z (by decide), fun z => by simp at z⟩
set_option maxRecDepth 20000 in
theorem b_92_11 {d nS : Nat} {x2 x3 x4 x5 s0 : Int32} {M : am_M} {Q : Option Value → am_H → Prop} : am_Wp d 92 11 [.ref 17, .ref 18, .int x2, .int x3, .int x4, .int x5, .retAddr 0] [.int s0] (hp nS M) Q = if s0 ≤ 0 then am_Wp d 92 37 [.ref 17, .ref 18, .int x2, .int x3, .int x4, .int x5, .int s0] [] (hp nS M) Q else am_Wp d 92 18 [.ref 17, .ref 18, .int x2, .int x3, .int x4, .int x5, .int s0] [] (hp nS M) Q := by
  refine (eq_run 2 (q := (15, [.ref 17, .ref 18, .int x2, .int x3, .int x4, .int x5, .int s0], [.int s0], hp nS M)) (by with_unfolding_all rfl)).trans ?_
  exact eq_if_le (by with_unfolding_all rfl)
set_option maxRecDepth 20000 in
theorem b_92_18 {d nS : Nat} {x2 x3 x4 x5 x6 : Int32} {M : am_M} {Q : Option Value → am_H → Prop} : am_Wp (d + 1) 92 18 [.ref 17, .ref 18, .int x2, .int x3, .int x4, .int x5, .int x6] [] (hp nS M) Q = am_Wp d 112 0 [.ref 18, .int x2, .int x3, .int x6] [] (hp nS M) (fun v h1 => am_Wp (d + 1) 92 26 [.ref 17, .ref 18, .int x2, .int x3, .int x4, .int x5, .int x6] (am_ans v []) h1 Q) := by
  refine (eq_run 4 (q := (23, [.ref 17, .ref 18, .int x2, .int x3, .int x4, .int x5, .int x6], [.int x6, .int x3, .int x2, .ref 18], hp nS M)) (by with_unfolding_all rfl)).trans ?_
  exact eq_call2 (e := (.invokevirtual 184, 3, 0, 112, 181)) (as := [.ref 18, .int x2, .int x3, .int x6]) (r := []) (n := 4) (m := 4) (by with_unfolding_all rfl) rfl (by decide) (by with_unfolding_all rfl) (by decide) (by with_unfolding_all rfl) ⟨fun _ => am_rec_ok (c := 12) (by with_unfolding_all rfl) (by decide +kernel), fun z => by simp at z⟩
set_option maxRecDepth 20000 in
theorem b_92_26 {d nS : Nat} {x2 x3 x4 x5 x6 : Int32} {M : am_M} {Q : Option Value → am_H → Prop} : am_Wp (d + 1) 92 26 [.ref 17, .ref 18, .int x2, .int x3, .int x4, .int x5, .int x6] [] (hp nS M) Q = am_Wp d 93 0 [.ref 17, .ref 18, .int 2, .int x2, .int x6, .int x5, .retAddr 0] [] (hp nS M) (fun v h1 => am_Wp (d + 1) 92 37 [.ref 17, .ref 18, .int x2, .int x3, .int x4, .int x5, .int x6] (am_ans v []) h1 Q) := by
  refine (eq_run 6 (q := (34, [.ref 17, .ref 18, .int x2, .int x3, .int x4, .int x5, .int x6], [.int x5, .int x6, .int x2, .int 2, .ref 18, .ref 17], hp nS M)) (by with_unfolding_all rfl)).trans ?_
  exact eq_call2 (e := (.invokevirtual 155, 3, 0, 93, 175)) (as := [.ref 17, .ref 18, .int 2, .int x2, .int x6, .int x5]) (r := []) (n := 6) (m := 7) (by with_unfolding_all rfl) rfl (by decide) (by with_unfolding_all rfl) (by decide) (by with_unfolding_all rfl) ⟨fun _ => am_rec_ok (c := 11) (by with_unfolding_all rfl) (by decide +kernel), fun z => by simp at z⟩
set_option maxRecDepth 20000 in
theorem b_92_37 {d nS : Nat} {x2 x3 x4 x5 x6 : Int32} {M : am_M} {Q : Option Value → am_H → Prop} : am_Wp d 92 37 [.ref 17, .ref 18, .int x2, .int x3, .int x4, .int x5, .int x6] [] (hp nS M) Q = Q none (hp nS M) := by
  exact eq_retV2 (e := (.return_, 1, 0, 0, 0)) (by with_unfolding_all rfl) rfl (by with_unfolding_all rfl)
-- LarkExchange$Town buys(LLarkExchange$World;IIIZ)V (92, (17, 101, None, None, None, None))
set_option maxRecDepth 20000 in
theorem b_92i1_0 {d nS : Nat} {x2 x3 x4 x5 : Int32} {M : am_M} {Q : Option Value → am_H → Prop} : am_Wp (d + 1) 92 0 [.ref 17, .ref 101, .int x2, .int x3, .int x4, .int x5, .retAddr 0] [] (hp nS M) Q = am_Wp d 109 0 [.ref 101, .int x2, .int x3, .retAddr 0] [] (hp nS M) (fun v h1 => am_Wp (d + 1) 92 8 [.ref 17, .ref 101, .int x2, .int x3, .int x4, .int x5, .retAddr 0] (am_ans v [.int x4]) h1 Q) := by
  refine (eq_run 4 (q := (5, [.ref 17, .ref 101, .int x2, .int x3, .int x4, .int x5, .retAddr 0], [.int x3, .int x2, .ref 101, .int x4], hp nS M)) (by with_unfolding_all rfl)).trans ?_
  exact eq_call2 (e := (.invokevirtual 181, 3, 0, 109, 180)) (as := [.ref 101, .int x2, .int x3]) (r := [.int x4]) (n := 3) (m := 4) (by with_unfolding_all rfl) rfl (by decide) (by with_unfolding_all rfl) (by decide) (by with_unfolding_all rfl) ⟨fun _ => am_rec_ok (c := 12) (by with_unfolding_all rfl) (by decide +kernel), fun z => by simp at z⟩
set_option maxRecDepth 20000 in
theorem b_92i1_8 {d nS : Nat} {x2 x3 x4 x5 s0 s1 : Int32} {M : am_M} {Q : Option Value → am_H → Prop} : am_Wp (d + 1) 92 8 [.ref 17, .ref 101, .int x2, .int x3, .int x4, .int x5, .retAddr 0] [.int s1, .int s0] (hp nS M) Q = am_Wp d 296 0 [.int s0, .int s1] [] (hp nS M) (fun v h1 => am_Wp (d + 1) 92 11 [.ref 17, .ref 101, .int x2, .int x3, .int x4, .int x5, .retAddr 0] (am_ans v []) h1 Q) := by
  exact eq_call2 (e := (.invokestatic 131, 3, 1, 296, 170)) (as := [.int s0, .int s1]) (r := []) (n := 2) (m := 2) (by with_unfolding_all rfl) rfl (by decide) (by with_unfolding_all rfl) (by decide) (by with_unfolding_all rfl) ⟨fun z => absurd z (by decide), fun z => by simp at z⟩
set_option maxRecDepth 20000 in
theorem b_92i1_11 {d nS : Nat} {x2 x3 x4 x5 s0 : Int32} {M : am_M} {Q : Option Value → am_H → Prop} : am_Wp d 92 11 [.ref 17, .ref 101, .int x2, .int x3, .int x4, .int x5, .retAddr 0] [.int s0] (hp nS M) Q = if s0 ≤ 0 then am_Wp d 92 37 [.ref 17, .ref 101, .int x2, .int x3, .int x4, .int x5, .int s0] [] (hp nS M) Q else am_Wp d 92 18 [.ref 17, .ref 101, .int x2, .int x3, .int x4, .int x5, .int s0] [] (hp nS M) Q := by
  refine (eq_run 2 (q := (15, [.ref 17, .ref 101, .int x2, .int x3, .int x4, .int x5, .int s0], [.int s0], hp nS M)) (by with_unfolding_all rfl)).trans ?_
  exact eq_if_le (by with_unfolding_all rfl)
set_option maxRecDepth 20000 in
theorem b_92i1_18 {d nS : Nat} {x2 x3 x4 x5 x6 : Int32} {M : am_M} {Q : Option Value → am_H → Prop} : am_Wp (d + 1) 92 18 [.ref 17, .ref 101, .int x2, .int x3, .int x4, .int x5, .int x6] [] (hp nS M) Q = am_Wp d 112 0 [.ref 101, .int x2, .int x3, .int x6] [] (hp nS M) (fun v h1 => am_Wp (d + 1) 92 26 [.ref 17, .ref 101, .int x2, .int x3, .int x4, .int x5, .int x6] (am_ans v []) h1 Q) := by
  refine (eq_run 4 (q := (23, [.ref 17, .ref 101, .int x2, .int x3, .int x4, .int x5, .int x6], [.int x6, .int x3, .int x2, .ref 101], hp nS M)) (by with_unfolding_all rfl)).trans ?_
  exact eq_call2 (e := (.invokevirtual 184, 3, 0, 112, 181)) (as := [.ref 101, .int x2, .int x3, .int x6]) (r := []) (n := 4) (m := 4) (by with_unfolding_all rfl) rfl (by decide) (by with_unfolding_all rfl) (by decide) (by with_unfolding_all rfl) ⟨fun _ => am_rec_ok (c := 12) (by with_unfolding_all rfl) (by decide +kernel), fun z => by simp at z⟩
set_option maxRecDepth 20000 in
theorem b_92i1_26 {d nS : Nat} {x2 x3 x4 x5 x6 : Int32} {M : am_M} {Q : Option Value → am_H → Prop} : am_Wp (d + 1) 92 26 [.ref 17, .ref 101, .int x2, .int x3, .int x4, .int x5, .int x6] [] (hp nS M) Q = am_Wp d 93 0 [.ref 17, .ref 101, .int 2, .int x2, .int x6, .int x5, .retAddr 0] [] (hp nS M) (fun v h1 => am_Wp (d + 1) 92 37 [.ref 17, .ref 101, .int x2, .int x3, .int x4, .int x5, .int x6] (am_ans v []) h1 Q) := by
  refine (eq_run 6 (q := (34, [.ref 17, .ref 101, .int x2, .int x3, .int x4, .int x5, .int x6], [.int x5, .int x6, .int x2, .int 2, .ref 101, .ref 17], hp nS M)) (by with_unfolding_all rfl)).trans ?_
  exact eq_call2 (e := (.invokevirtual 155, 3, 0, 93, 175)) (as := [.ref 17, .ref 101, .int 2, .int x2, .int x6, .int x5]) (r := []) (n := 6) (m := 7) (by with_unfolding_all rfl) rfl (by decide) (by with_unfolding_all rfl) (by decide) (by with_unfolding_all rfl) ⟨fun _ => am_rec_ok (c := 11) (by with_unfolding_all rfl) (by decide +kernel), fun z => by simp at z⟩
set_option maxRecDepth 20000 in
theorem b_92i1_37 {d nS : Nat} {x2 x3 x4 x5 x6 : Int32} {M : am_M} {Q : Option Value → am_H → Prop} : am_Wp d 92 37 [.ref 17, .ref 101, .int x2, .int x3, .int x4, .int x5, .int x6] [] (hp nS M) Q = Q none (hp nS M) := by
  exact eq_retV2 (e := (.return_, 1, 0, 0, 0)) (by with_unfolding_all rfl) rfl (by with_unfolding_all rfl)
-- LarkExchange$Town writes(LLarkExchange$World;IIIZ)V (93, (17, 18, None, None, None, None))
set_option maxRecDepth 20000 in
theorem b_93_0 {d nS : Nat} {x2 x3 x4 x5 : Int32} {M : am_M} {Q : Option Value → am_H → Prop} : am_Wp d 93 0 [.ref 17, .ref 18, .int x2, .int x3, .int x4, .int x5, .retAddr 0] [] (hp nS M) Q = if x5 = 0 then am_Wp d 93 15 [.ref 17, .ref 18, .int x2, .int x3, .int x4, .int x5, .retAddr 0] [] (hp nS M) Q else am_Wp d 93 5 [.ref 17, .ref 18, .int x2, .int x3, .int x4, .int x5, .retAddr 0] [] (hp nS M) Q := by
  refine (eq_run 1 (q := (2, [.ref 17, .ref 18, .int x2, .int x3, .int x4, .int x5, .retAddr 0], [.int x5], hp nS M)) (by with_unfolding_all rfl)).trans ?_
  exact eq_if_eq (by with_unfolding_all rfl)
set_option maxRecDepth 20000 in
theorem b_93_5 {d nS : Nat} {x2 x3 x4 x5 : Int32} {M : am_M} {Q : Option Value → am_H → Prop} : am_Wp d 93 5 [.ref 17, .ref 18, .int x2, .int x3, .int x4, .int x5, .retAddr 0] [] (hp nS M) Q = if (M 18 6) < 150 then am_Wp d 93 16 [.ref 17, .ref 18, .int x2, .int x3, .int x4, .int x5, .retAddr 0] [] (hp nS M) Q else am_Wp d 93 15 [.ref 17, .ref 18, .int x2, .int x3, .int x4, .int x5, .retAddr 0] [] (hp nS M) Q := by
  refine (eq_run 3 (q := (12, [.ref 17, .ref 18, .int x2, .int x3, .int x4, .int x5, .retAddr 0], [.int 150, .int (M 18 6)], hp nS M)) (by with_unfolding_all rfl)).trans ?_
  exact eq_cmp_lt (by with_unfolding_all rfl)
set_option maxRecDepth 20000 in
theorem b_93_15 {d nS : Nat} {x2 x3 x4 x5 : Int32} {M : am_M} {Q : Option Value → am_H → Prop} : am_Wp d 93 15 [.ref 17, .ref 18, .int x2, .int x3, .int x4, .int x5, .retAddr 0] [] (hp nS M) Q = Q none (hp nS M) := by
  exact eq_retV2 (e := (.return_, 1, 0, 0, 0)) (by with_unfolding_all rfl) rfl (by with_unfolding_all rfl)
set_option maxRecDepth 20000 in
theorem b_93_16 {d nS : Nat} {x2 x3 x4 x5 : Int32} {M : am_M} {Q : Option Value → am_H → Prop} (h1 : vp_in ((M 18 6) * 4) 600) (h2 : vp_in (((M 18 6) * 4) + 1) 600) (h3 : vp_in (((M 18 6) * 4) + 2) 600) (h4 : vp_in (((M 18 6) * 4) + 3) 600) : am_Wp d 93 16 [.ref 17, .ref 18, .int x2, .int x3, .int x4, .int x5, .retAddr 0] [] (hp nS M) Q = Q none (hp nS (am_up (am_up (am_up (am_up (am_up M 30 ((M 18 6) * 4).toNatClampNeg (M 18 4)) 30 (((M 18 6) * 4) + 1).toNatClampNeg x2) 30 (((M 18 6) * 4) + 2).toNatClampNeg x3) 30 (((M 18 6) * 4) + 3).toNatClampNeg x4) 18 6 (((am_up (am_up (am_up (am_up M 30 ((M 18 6) * 4).toNatClampNeg (M 18 4)) 30 (((M 18 6) * 4) + 1).toNatClampNeg x2) 30 (((M 18 6) * 4) + 2).toNatClampNeg x3) 30 (((M 18 6) * 4) + 3).toNatClampNeg x4) 18 6) + 1))) := by
  refine (eq_run 10 (q := (34, [.ref 17, .ref 18, .int x2, .int x3, .int x4, .int x5, .int ((M 18 6) * 4)], [.int (M 18 4), .int ((M 18 6) * 4), .ref 30], hp nS M)) (by with_unfolding_all rfl)).trans ?_
  refine (eq_ast (e := (.iastore, 1, 0, 0, 0)) (by with_unfolding_all rfl) rfl (n := 600) (by with_unfolding_all rfl) (by decide) h1).trans ?_
  refine (eq_run 6 (q := (44, [.ref 17, .ref 18, .int x2, .int x3, .int x4, .int x5, .int ((M 18 6) * 4)], [.int x2, .int (((M 18 6) * 4) + 1), .ref 30], hp nS (am_up M 30 ((M 18 6) * 4).toNatClampNeg (M 18 4)))) (by with_unfolding_all rfl)).trans ?_
  refine (eq_ast (e := (.iastore, 1, 0, 0, 0)) (by with_unfolding_all rfl) rfl (n := 600) (by with_unfolding_all rfl) (by decide) h2).trans ?_
  refine (eq_run 6 (q := (54, [.ref 17, .ref 18, .int x2, .int x3, .int x4, .int x5, .int ((M 18 6) * 4)], [.int x3, .int (((M 18 6) * 4) + 2), .ref 30], hp nS (am_up (am_up M 30 ((M 18 6) * 4).toNatClampNeg (M 18 4)) 30 (((M 18 6) * 4) + 1).toNatClampNeg x2))) (by with_unfolding_all rfl)).trans ?_
  refine (eq_ast (e := (.iastore, 1, 0, 0, 0)) (by with_unfolding_all rfl) rfl (n := 600) (by with_unfolding_all rfl) (by decide) h3).trans ?_
  refine (eq_run 6 (q := (65, [.ref 17, .ref 18, .int x2, .int x3, .int x4, .int x5, .int ((M 18 6) * 4)], [.int x4, .int (((M 18 6) * 4) + 3), .ref 30], hp nS (am_up (am_up (am_up M 30 ((M 18 6) * 4).toNatClampNeg (M 18 4)) 30 (((M 18 6) * 4) + 1).toNatClampNeg x2) 30 (((M 18 6) * 4) + 2).toNatClampNeg x3))) (by with_unfolding_all rfl)).trans ?_
  refine (eq_ast (e := (.iastore, 1, 0, 0, 0)) (by with_unfolding_all rfl) rfl (n := 600) (by with_unfolding_all rfl) (by decide) h4).trans ?_
  refine (eq_run 6 (q := (76, [.ref 17, .ref 18, .int x2, .int x3, .int x4, .int x5, .int ((M 18 6) * 4)], [], hp nS (am_up (am_up (am_up (am_up (am_up M 30 ((M 18 6) * 4).toNatClampNeg (M 18 4)) 30 (((M 18 6) * 4) + 1).toNatClampNeg x2) 30 (((M 18 6) * 4) + 2).toNatClampNeg x3) 30 (((M 18 6) * 4) + 3).toNatClampNeg x4) 18 6 (((am_up (am_up (am_up (am_up M 30 ((M 18 6) * 4).toNatClampNeg (M 18 4)) 30 (((M 18 6) * 4) + 1).toNatClampNeg x2) 30 (((M 18 6) * 4) + 2).toNatClampNeg x3) 30 (((M 18 6) * 4) + 3).toNatClampNeg x4) 18 6) + 1)))) (by with_unfolding_all rfl)).trans ?_
  exact eq_retV2 (e := (.return_, 1, 0, 0, 0)) (by with_unfolding_all rfl) rfl (by with_unfolding_all rfl)
-- LarkExchange$Town writes(LLarkExchange$World;IIIZ)V (93, (17, 101, None, None, None, None))
set_option maxRecDepth 20000 in
theorem b_93i1_0 {d nS : Nat} {x2 x3 x4 x5 : Int32} {M : am_M} {Q : Option Value → am_H → Prop} : am_Wp d 93 0 [.ref 17, .ref 101, .int x2, .int x3, .int x4, .int x5, .retAddr 0] [] (hp nS M) Q = if x5 = 0 then am_Wp d 93 15 [.ref 17, .ref 101, .int x2, .int x3, .int x4, .int x5, .retAddr 0] [] (hp nS M) Q else am_Wp d 93 5 [.ref 17, .ref 101, .int x2, .int x3, .int x4, .int x5, .retAddr 0] [] (hp nS M) Q := by
  refine (eq_run 1 (q := (2, [.ref 17, .ref 101, .int x2, .int x3, .int x4, .int x5, .retAddr 0], [.int x5], hp nS M)) (by with_unfolding_all rfl)).trans ?_
  exact eq_if_eq (by with_unfolding_all rfl)
set_option maxRecDepth 20000 in
theorem b_93i1_5 {d nS : Nat} {x2 x3 x4 x5 : Int32} {M : am_M} {Q : Option Value → am_H → Prop} : am_Wp d 93 5 [.ref 17, .ref 101, .int x2, .int x3, .int x4, .int x5, .retAddr 0] [] (hp nS M) Q = if (M 101 6) < 150 then am_Wp d 93 16 [.ref 17, .ref 101, .int x2, .int x3, .int x4, .int x5, .retAddr 0] [] (hp nS M) Q else am_Wp d 93 15 [.ref 17, .ref 101, .int x2, .int x3, .int x4, .int x5, .retAddr 0] [] (hp nS M) Q := by
  refine (eq_run 3 (q := (12, [.ref 17, .ref 101, .int x2, .int x3, .int x4, .int x5, .retAddr 0], [.int 150, .int (M 101 6)], hp nS M)) (by with_unfolding_all rfl)).trans ?_
  exact eq_cmp_lt (by with_unfolding_all rfl)
set_option maxRecDepth 20000 in
theorem b_93i1_15 {d nS : Nat} {x2 x3 x4 x5 : Int32} {M : am_M} {Q : Option Value → am_H → Prop} : am_Wp d 93 15 [.ref 17, .ref 101, .int x2, .int x3, .int x4, .int x5, .retAddr 0] [] (hp nS M) Q = Q none (hp nS M) := by
  exact eq_retV2 (e := (.return_, 1, 0, 0, 0)) (by with_unfolding_all rfl) rfl (by with_unfolding_all rfl)
set_option maxRecDepth 20000 in
theorem b_93i1_16 {d nS : Nat} {x2 x3 x4 x5 : Int32} {M : am_M} {Q : Option Value → am_H → Prop} (h1 : vp_in ((M 101 6) * 4) 600) (h2 : vp_in (((M 101 6) * 4) + 1) 600) (h3 : vp_in (((M 101 6) * 4) + 2) 600) (h4 : vp_in (((M 101 6) * 4) + 3) 600) : am_Wp d 93 16 [.ref 17, .ref 101, .int x2, .int x3, .int x4, .int x5, .retAddr 0] [] (hp nS M) Q = Q none (hp nS (am_up (am_up (am_up (am_up (am_up M 30 ((M 101 6) * 4).toNatClampNeg (M 101 4)) 30 (((M 101 6) * 4) + 1).toNatClampNeg x2) 30 (((M 101 6) * 4) + 2).toNatClampNeg x3) 30 (((M 101 6) * 4) + 3).toNatClampNeg x4) 101 6 (((am_up (am_up (am_up (am_up M 30 ((M 101 6) * 4).toNatClampNeg (M 101 4)) 30 (((M 101 6) * 4) + 1).toNatClampNeg x2) 30 (((M 101 6) * 4) + 2).toNatClampNeg x3) 30 (((M 101 6) * 4) + 3).toNatClampNeg x4) 101 6) + 1))) := by
  refine (eq_run 10 (q := (34, [.ref 17, .ref 101, .int x2, .int x3, .int x4, .int x5, .int ((M 101 6) * 4)], [.int (M 101 4), .int ((M 101 6) * 4), .ref 30], hp nS M)) (by with_unfolding_all rfl)).trans ?_
  refine (eq_ast (e := (.iastore, 1, 0, 0, 0)) (by with_unfolding_all rfl) rfl (n := 600) (by with_unfolding_all rfl) (by decide) h1).trans ?_
  refine (eq_run 6 (q := (44, [.ref 17, .ref 101, .int x2, .int x3, .int x4, .int x5, .int ((M 101 6) * 4)], [.int x2, .int (((M 101 6) * 4) + 1), .ref 30], hp nS (am_up M 30 ((M 101 6) * 4).toNatClampNeg (M 101 4)))) (by with_unfolding_all rfl)).trans ?_
  refine (eq_ast (e := (.iastore, 1, 0, 0, 0)) (by with_unfolding_all rfl) rfl (n := 600) (by with_unfolding_all rfl) (by decide) h2).trans ?_
  refine (eq_run 6 (q := (54, [.ref 17, .ref 101, .int x2, .int x3, .int x4, .int x5, .int ((M 101 6) * 4)], [.int x3, .int (((M 101 6) * 4) + 2), .ref 30], hp nS (am_up (am_up M 30 ((M 101 6) * 4).toNatClampNeg (M 101 4)) 30 (((M 101 6) * 4) + 1).toNatClampNeg x2))) (by with_unfolding_all rfl)).trans ?_
  refine (eq_ast (e := (.iastore, 1, 0, 0, 0)) (by with_unfolding_all rfl) rfl (n := 600) (by with_unfolding_all rfl) (by decide) h3).trans ?_
  refine (eq_run 6 (q := (65, [.ref 17, .ref 101, .int x2, .int x3, .int x4, .int x5, .int ((M 101 6) * 4)], [.int x4, .int (((M 101 6) * 4) + 3), .ref 30], hp nS (am_up (am_up (am_up M 30 ((M 101 6) * 4).toNatClampNeg (M 101 4)) 30 (((M 101 6) * 4) + 1).toNatClampNeg x2) 30 (((M 101 6) * 4) + 2).toNatClampNeg x3))) (by with_unfolding_all rfl)).trans ?_
  refine (eq_ast (e := (.iastore, 1, 0, 0, 0)) (by with_unfolding_all rfl) rfl (n := 600) (by with_unfolding_all rfl) (by decide) h4).trans ?_
  refine (eq_run 6 (q := (76, [.ref 17, .ref 101, .int x2, .int x3, .int x4, .int x5, .int ((M 101 6) * 4)], [], hp nS (am_up (am_up (am_up (am_up (am_up M 30 ((M 101 6) * 4).toNatClampNeg (M 101 4)) 30 (((M 101 6) * 4) + 1).toNatClampNeg x2) 30 (((M 101 6) * 4) + 2).toNatClampNeg x3) 30 (((M 101 6) * 4) + 3).toNatClampNeg x4) 101 6 (((am_up (am_up (am_up (am_up M 30 ((M 101 6) * 4).toNatClampNeg (M 101 4)) 30 (((M 101 6) * 4) + 1).toNatClampNeg x2) 30 (((M 101 6) * 4) + 2).toNatClampNeg x3) 30 (((M 101 6) * 4) + 3).toNatClampNeg x4) 101 6) + 1)))) (by with_unfolding_all rfl)).trans ?_
  exact eq_retV2 (e := (.return_, 1, 0, 0, 0)) (by with_unfolding_all rfl) rfl (by with_unfolding_all rfl)
-- LarkExchange$Town sells(LLarkExchange$World;IIIZ)V (94, (17, 18, None, None, None, None))
set_option maxRecDepth 20000 in
theorem b_94_0 {d nS : Nat} {x2 x3 x4 x5 : Int32} {M : am_M} {Q : Option Value → am_H → Prop} : am_Wp (d + 1) 94 0 [.ref 17, .ref 18, .int x2, .int x3, .int x4, .int x5, .retAddr 0] [] (hp nS M) Q = am_Wp d 110 0 [.ref 18, .int x2, .int x3] [] (hp nS M) (fun v h1 => am_Wp (d + 1) 94 8 [.ref 17, .ref 18, .int x2, .int x3, .int x4, .int x5, .retAddr 0] (am_ans v [.int x4]) h1 Q) := by
  refine (eq_run 4 (q := (5, [.ref 17, .ref 18, .int x2, .int x3, .int x4, .int x5, .retAddr 0], [.int x3, .int x2, .ref 18, .int x4], hp nS M)) (by with_unfolding_all rfl)).trans ?_
  exact eq_call2 (e := (.invokevirtual 188, 3, 0, 110, 182)) (as := [.ref 18, .int x2, .int x3]) (r := [.int x4]) (n := 3) (m := 3) (by with_unfolding_all rfl) rfl (by decide) (by with_unfolding_all rfl) (by decide) (by with_unfolding_all rfl) ⟨fun _ => am_rec_ok (c := 12) (by with_unfolding_all rfl) (by decide +kernel), fun z => by simp at z⟩
set_option maxRecDepth 20000 in
theorem b_94_8 {d nS : Nat} {x2 x3 x4 x5 s0 s1 : Int32} {M : am_M} {Q : Option Value → am_H → Prop} : am_Wp (d + 1) 94 8 [.ref 17, .ref 18, .int x2, .int x3, .int x4, .int x5, .retAddr 0] [.int s1, .int s0] (hp nS M) Q = am_Wp d 296 0 [.int s0, .int s1] [] (hp nS M) (fun v h1 => am_Wp (d + 1) 94 11 [.ref 17, .ref 18, .int x2, .int x3, .int x4, .int x5, .retAddr 0] (am_ans v []) h1 Q) := by
  exact eq_call2 (e := (.invokestatic 131, 3, 1, 296, 170)) (as := [.int s0, .int s1]) (r := []) (n := 2) (m := 2) (by with_unfolding_all rfl) rfl (by decide) (by with_unfolding_all rfl) (by decide) (by with_unfolding_all rfl) ⟨fun z => absurd z (by decide), fun z => by simp at z⟩
set_option maxRecDepth 20000 in
theorem b_94_11 {d nS : Nat} {x2 x3 x4 x5 s0 : Int32} {M : am_M} {Q : Option Value → am_H → Prop} : am_Wp d 94 11 [.ref 17, .ref 18, .int x2, .int x3, .int x4, .int x5, .retAddr 0] [.int s0] (hp nS M) Q = if s0 ≤ 0 then am_Wp d 94 38 [.ref 17, .ref 18, .int x2, .int x3, .int x4, .int x5, .int s0] [] (hp nS M) Q else am_Wp d 94 18 [.ref 17, .ref 18, .int x2, .int x3, .int x4, .int x5, .int s0] [] (hp nS M) Q := by
  refine (eq_run 2 (q := (15, [.ref 17, .ref 18, .int x2, .int x3, .int x4, .int x5, .int s0], [.int s0], hp nS M)) (by with_unfolding_all rfl)).trans ?_
  exact eq_if_le (by with_unfolding_all rfl)
set_option maxRecDepth 20000 in
theorem b_94_18 {d nS : Nat} {x2 x3 x4 x5 x6 : Int32} {M : am_M} {Q : Option Value → am_H → Prop} : am_Wp (d + 1) 94 18 [.ref 17, .ref 18, .int x2, .int x3, .int x4, .int x5, .int x6] [] (hp nS M) Q = am_Wp d 112 0 [.ref 18, .int x2, .int x3, .int (-x6)] [] (hp nS M) (fun v h1 => am_Wp (d + 1) 94 27 [.ref 17, .ref 18, .int x2, .int x3, .int x4, .int x5, .int x6] (am_ans v []) h1 Q) := by
  refine (eq_run 5 (q := (24, [.ref 17, .ref 18, .int x2, .int x3, .int x4, .int x5, .int x6], [.int (-x6), .int x3, .int x2, .ref 18], hp nS M)) (by with_unfolding_all rfl)).trans ?_
  exact eq_call2 (e := (.invokevirtual 184, 3, 0, 112, 181)) (as := [.ref 18, .int x2, .int x3, .int (-x6)]) (r := []) (n := 4) (m := 4) (by with_unfolding_all rfl) rfl (by decide) (by with_unfolding_all rfl) (by decide) (by with_unfolding_all rfl) ⟨fun _ => am_rec_ok (c := 12) (by with_unfolding_all rfl) (by decide +kernel), fun z => by simp at z⟩
set_option maxRecDepth 20000 in
theorem b_94_27 {d nS : Nat} {x2 x3 x4 x5 x6 : Int32} {M : am_M} {Q : Option Value → am_H → Prop} : am_Wp (d + 1) 94 27 [.ref 17, .ref 18, .int x2, .int x3, .int x4, .int x5, .int x6] [] (hp nS M) Q = am_Wp d 93 0 [.ref 17, .ref 18, .int 3, .int x2, .int x6, .int x5, .retAddr 0] [] (hp nS M) (fun v h1 => am_Wp (d + 1) 94 38 [.ref 17, .ref 18, .int x2, .int x3, .int x4, .int x5, .int x6] (am_ans v []) h1 Q) := by
  refine (eq_run 6 (q := (35, [.ref 17, .ref 18, .int x2, .int x3, .int x4, .int x5, .int x6], [.int x5, .int x6, .int x2, .int 3, .ref 18, .ref 17], hp nS M)) (by with_unfolding_all rfl)).trans ?_
  exact eq_call2 (e := (.invokevirtual 155, 3, 0, 93, 175)) (as := [.ref 17, .ref 18, .int 3, .int x2, .int x6, .int x5]) (r := []) (n := 6) (m := 7) (by with_unfolding_all rfl) rfl (by decide) (by with_unfolding_all rfl) (by decide) (by with_unfolding_all rfl) ⟨fun _ => am_rec_ok (c := 11) (by with_unfolding_all rfl) (by decide +kernel), fun z => by simp at z⟩
set_option maxRecDepth 20000 in
theorem b_94_38 {d nS : Nat} {x2 x3 x4 x5 x6 : Int32} {M : am_M} {Q : Option Value → am_H → Prop} : am_Wp d 94 38 [.ref 17, .ref 18, .int x2, .int x3, .int x4, .int x5, .int x6] [] (hp nS M) Q = Q none (hp nS M) := by
  exact eq_retV2 (e := (.return_, 1, 0, 0, 0)) (by with_unfolding_all rfl) rfl (by with_unfolding_all rfl)
-- LarkExchange$Town sells(LLarkExchange$World;IIIZ)V (94, (17, 101, None, None, None, None))
set_option maxRecDepth 20000 in
theorem b_94i1_0 {d nS : Nat} {x2 x3 x4 x5 : Int32} {M : am_M} {Q : Option Value → am_H → Prop} : am_Wp (d + 1) 94 0 [.ref 17, .ref 101, .int x2, .int x3, .int x4, .int x5, .retAddr 0] [] (hp nS M) Q = am_Wp d 110 0 [.ref 101, .int x2, .int x3] [] (hp nS M) (fun v h1 => am_Wp (d + 1) 94 8 [.ref 17, .ref 101, .int x2, .int x3, .int x4, .int x5, .retAddr 0] (am_ans v [.int x4]) h1 Q) := by
  refine (eq_run 4 (q := (5, [.ref 17, .ref 101, .int x2, .int x3, .int x4, .int x5, .retAddr 0], [.int x3, .int x2, .ref 101, .int x4], hp nS M)) (by with_unfolding_all rfl)).trans ?_
  exact eq_call2 (e := (.invokevirtual 188, 3, 0, 110, 182)) (as := [.ref 101, .int x2, .int x3]) (r := [.int x4]) (n := 3) (m := 3) (by with_unfolding_all rfl) rfl (by decide) (by with_unfolding_all rfl) (by decide) (by with_unfolding_all rfl) ⟨fun _ => am_rec_ok (c := 12) (by with_unfolding_all rfl) (by decide +kernel), fun z => by simp at z⟩
set_option maxRecDepth 20000 in
theorem b_94i1_8 {d nS : Nat} {x2 x3 x4 x5 s0 s1 : Int32} {M : am_M} {Q : Option Value → am_H → Prop} : am_Wp (d + 1) 94 8 [.ref 17, .ref 101, .int x2, .int x3, .int x4, .int x5, .retAddr 0] [.int s1, .int s0] (hp nS M) Q = am_Wp d 296 0 [.int s0, .int s1] [] (hp nS M) (fun v h1 => am_Wp (d + 1) 94 11 [.ref 17, .ref 101, .int x2, .int x3, .int x4, .int x5, .retAddr 0] (am_ans v []) h1 Q) := by
  exact eq_call2 (e := (.invokestatic 131, 3, 1, 296, 170)) (as := [.int s0, .int s1]) (r := []) (n := 2) (m := 2) (by with_unfolding_all rfl) rfl (by decide) (by with_unfolding_all rfl) (by decide) (by with_unfolding_all rfl) ⟨fun z => absurd z (by decide), fun z => by simp at z⟩
set_option maxRecDepth 20000 in
theorem b_94i1_11 {d nS : Nat} {x2 x3 x4 x5 s0 : Int32} {M : am_M} {Q : Option Value → am_H → Prop} : am_Wp d 94 11 [.ref 17, .ref 101, .int x2, .int x3, .int x4, .int x5, .retAddr 0] [.int s0] (hp nS M) Q = if s0 ≤ 0 then am_Wp d 94 38 [.ref 17, .ref 101, .int x2, .int x3, .int x4, .int x5, .int s0] [] (hp nS M) Q else am_Wp d 94 18 [.ref 17, .ref 101, .int x2, .int x3, .int x4, .int x5, .int s0] [] (hp nS M) Q := by
  refine (eq_run 2 (q := (15, [.ref 17, .ref 101, .int x2, .int x3, .int x4, .int x5, .int s0], [.int s0], hp nS M)) (by with_unfolding_all rfl)).trans ?_
  exact eq_if_le (by with_unfolding_all rfl)
set_option maxRecDepth 20000 in
theorem b_94i1_18 {d nS : Nat} {x2 x3 x4 x5 x6 : Int32} {M : am_M} {Q : Option Value → am_H → Prop} : am_Wp (d + 1) 94 18 [.ref 17, .ref 101, .int x2, .int x3, .int x4, .int x5, .int x6] [] (hp nS M) Q = am_Wp d 112 0 [.ref 101, .int x2, .int x3, .int (-x6)] [] (hp nS M) (fun v h1 => am_Wp (d + 1) 94 27 [.ref 17, .ref 101, .int x2, .int x3, .int x4, .int x5, .int x6] (am_ans v []) h1 Q) := by
  refine (eq_run 5 (q := (24, [.ref 17, .ref 101, .int x2, .int x3, .int x4, .int x5, .int x6], [.int (-x6), .int x3, .int x2, .ref 101], hp nS M)) (by with_unfolding_all rfl)).trans ?_
  exact eq_call2 (e := (.invokevirtual 184, 3, 0, 112, 181)) (as := [.ref 101, .int x2, .int x3, .int (-x6)]) (r := []) (n := 4) (m := 4) (by with_unfolding_all rfl) rfl (by decide) (by with_unfolding_all rfl) (by decide) (by with_unfolding_all rfl) ⟨fun _ => am_rec_ok (c := 12) (by with_unfolding_all rfl) (by decide +kernel), fun z => by simp at z⟩
set_option maxRecDepth 20000 in
theorem b_94i1_27 {d nS : Nat} {x2 x3 x4 x5 x6 : Int32} {M : am_M} {Q : Option Value → am_H → Prop} : am_Wp (d + 1) 94 27 [.ref 17, .ref 101, .int x2, .int x3, .int x4, .int x5, .int x6] [] (hp nS M) Q = am_Wp d 93 0 [.ref 17, .ref 101, .int 3, .int x2, .int x6, .int x5, .retAddr 0] [] (hp nS M) (fun v h1 => am_Wp (d + 1) 94 38 [.ref 17, .ref 101, .int x2, .int x3, .int x4, .int x5, .int x6] (am_ans v []) h1 Q) := by
  refine (eq_run 6 (q := (35, [.ref 17, .ref 101, .int x2, .int x3, .int x4, .int x5, .int x6], [.int x5, .int x6, .int x2, .int 3, .ref 101, .ref 17], hp nS M)) (by with_unfolding_all rfl)).trans ?_
  exact eq_call2 (e := (.invokevirtual 155, 3, 0, 93, 175)) (as := [.ref 17, .ref 101, .int 3, .int x2, .int x6, .int x5]) (r := []) (n := 6) (m := 7) (by with_unfolding_all rfl) rfl (by decide) (by with_unfolding_all rfl) (by decide) (by with_unfolding_all rfl) ⟨fun _ => am_rec_ok (c := 11) (by with_unfolding_all rfl) (by decide +kernel), fun z => by simp at z⟩
set_option maxRecDepth 20000 in
theorem b_94i1_38 {d nS : Nat} {x2 x3 x4 x5 x6 : Int32} {M : am_M} {Q : Option Value → am_H → Prop} : am_Wp d 94 38 [.ref 17, .ref 101, .int x2, .int x3, .int x4, .int x5, .int x6] [] (hp nS M) Q = Q none (hp nS M) := by
  exact eq_retV2 (e := (.return_, 1, 0, 0, 0)) (by with_unfolding_all rfl) rfl (by with_unfolding_all rfl)
-- LarkExchange$Town dayGoes(LLarkExchange$World;Z)I (95, (17, 18, None))
set_option maxRecDepth 20000 in
theorem b_95_0 {d nS : Nat} {x2 : Int32} {M : am_M} {Q : Option Value → am_H → Prop} : am_Wp (d + 1) 95 0 [.ref 17, .ref 18, .int x2, .retAddr 0, .retAddr 0] [] (hp nS M) Q = am_Wp d 96 0 [.ref 17, .ref 18, .retAddr 0, .retAddr 0, .retAddr 0, .retAddr 0] [] (hp nS M) (fun v h1 => am_Wp (d + 1) 95 5 [.ref 17, .ref 18, .int x2, .retAddr 0, .retAddr 0] (am_ans v []) h1 Q) := by
  refine (eq_run 2 (q := (2, [.ref 17, .ref 18, .int x2, .retAddr 0, .retAddr 0], [.ref 18, .ref 17], hp nS M)) (by with_unfolding_all rfl)).trans ?_
  exact eq_call2 (e := (.invokevirtual 86, 3, 0, 96, 163)) (as := [.ref 17, .ref 18]) (r := []) (n := 2) (m := 6) (by with_unfolding_all rfl) rfl (by decide) (by with_unfolding_all rfl) (by decide) (by with_unfolding_all rfl) ⟨fun _ => am_rec_ok (c := 11) (by with_unfolding_all rfl) (by decide +kernel), fun z => by simp at z⟩
set_option maxRecDepth 20000 in
theorem b_95_5 {d nS : Nat} {x2 : Int32} {M : am_M} {Q : Option Value → am_H → Prop} : am_Wp d 95 5 [.ref 17, .ref 18, .int x2, .retAddr 0, .retAddr 0] [] (hp nS M) Q = am_Wp d 95 10 [.ref 17, .ref 18, .int x2, .int 0, .int 0] [] (hp nS M) Q := by
  exact eq_run 4 (q := (10, [.ref 17, .ref 18, .int x2, .int 0, .int 0], [], hp nS M)) (by with_unfolding_all rfl)
set_option maxRecDepth 20000 in
theorem b_95_10 {d nS : Nat} {x2 x3 x4 : Int32} {M : am_M} {Q : Option Value → am_H → Prop} : am_Wp d 95 10 [.ref 17, .ref 18, .int x2, .int x3, .int x4] [] (hp nS M) Q = if (M 18 0) ≤ x4 then am_Wp d 95 49 [.ref 17, .ref 18, .int x2, .int x3, .int x4] [] (hp nS M) Q else am_Wp d 95 19 [.ref 17, .ref 18, .int x2, .int x3, .int x4] [] (hp nS M) Q := by
  refine (eq_run 3 (q := (16, [.ref 17, .ref 18, .int x2, .int x3, .int x4], [.int (M 18 0), .int x4], hp nS M)) (by with_unfolding_all rfl)).trans ?_
  exact eq_cmp_ge (by with_unfolding_all rfl)
set_option maxRecDepth 20000 in
theorem b_95_19 {d nS : Nat} {x2 x3 x4 : Int32} {M : am_M} {Q : Option Value → am_H → Prop} (h1 : vp_in x4 6) : am_Wp d 95 19 [.ref 17, .ref 18, .int x2, .int x3, .int x4] [] (hp nS M) Q = if ¬ (M 22 x4.toNatClampNeg) = 0 then am_Wp d 95 43 [.ref 17, .ref 18, .int x2, .int x3, .int x4] [] (hp nS M) Q else am_Wp d 95 29 [.ref 17, .ref 18, .int x2, .int x3, .int x4] [] (hp nS M) Q := by
  refine (eq_run 3 (q := (25, [.ref 17, .ref 18, .int x2, .int x3, .int x4], [.int x4, .ref 22], hp nS M)) (by with_unfolding_all rfl)).trans ?_
  refine (eq_ald (e := (.iaload, 1, 0, 0, 0)) (by with_unfolding_all rfl) rfl (n := 6) (by with_unfolding_all rfl) h1).trans ?_
  exact eq_if_ne (by with_unfolding_all rfl)
set_option maxRecDepth 20000 in
theorem b_95_29 {d nS : Nat} {x2 x3 x4 : Int32} {M : am_M} {Q : Option Value → am_H → Prop} : am_Wp (d + 1) 95 29 [.ref 17, .ref 18, .int x2, .int x3, .int x4] [] (hp nS M) Q = am_Wp d 97 0 [.ref 17, .ref 18, .int x4, .int x2, .retAddr 0, .retAddr 0, .retAddr 0] [] (hp nS M) (fun v h1 => am_Wp (d + 1) 95 37 [.ref 17, .ref 18, .int x2, .int x3, .int x4] (am_ans v []) h1 Q) := by
  refine (eq_run 4 (q := (34, [.ref 17, .ref 18, .int x2, .int x3, .int x4], [.int x2, .int x4, .ref 18, .ref 17], hp nS M)) (by with_unfolding_all rfl)).trans ?_
  exact eq_call2 (e := (.invokevirtual 96, 3, 0, 97, 164)) (as := [.ref 17, .ref 18, .int x4, .int x2]) (r := []) (n := 4) (m := 7) (by with_unfolding_all rfl) rfl (by decide) (by with_unfolding_all rfl) (by decide) (by with_unfolding_all rfl) ⟨fun _ => am_rec_ok (c := 11) (by with_unfolding_all rfl) (by decide +kernel), fun z => by simp at z⟩
set_option maxRecDepth 20000 in
theorem b_95_37 {d nS : Nat} {x2 x3 x4 s0 : Int32} {M : am_M} {Q : Option Value → am_H → Prop} : am_Wp d 95 37 [.ref 17, .ref 18, .int x2, .int x3, .int x4] [.int s0] (hp nS M) Q = if s0 = 0 then am_Wp d 95 43 [.ref 17, .ref 18, .int x2, .int x3, .int x4] [] (hp nS M) Q else am_Wp d 95 40 [.ref 17, .ref 18, .int x2, .int x3, .int x4] [] (hp nS M) Q := by
  exact eq_if_eq (by with_unfolding_all rfl)
set_option maxRecDepth 20000 in
theorem b_95_40 {d nS : Nat} {x2 x3 x4 : Int32} {M : am_M} {Q : Option Value → am_H → Prop} : am_Wp d 95 40 [.ref 17, .ref 18, .int x2, .int x3, .int x4] [] (hp nS M) Q = am_Wp d 95 43 [.ref 17, .ref 18, .int x2, .int (x3 + 1), .int x4] [] (hp nS M) Q := by
  exact eq_run 1 (q := (43, [.ref 17, .ref 18, .int x2, .int (x3 + 1), .int x4], [], hp nS M)) (by with_unfolding_all rfl)
set_option maxRecDepth 20000 in
theorem b_95_43 {d nS : Nat} {x2 x3 x4 : Int32} {M : am_M} {Q : Option Value → am_H → Prop} : am_Wp d 95 43 [.ref 17, .ref 18, .int x2, .int x3, .int x4] [] (hp nS M) Q = am_Wp d 95 10 [.ref 17, .ref 18, .int x2, .int x3, .int (x4 + 1)] [] (hp nS M) Q := by
  exact eq_run 2 (q := (10, [.ref 17, .ref 18, .int x2, .int x3, .int (x4 + 1)], [], hp nS M)) (by with_unfolding_all rfl)
set_option maxRecDepth 20000 in
theorem b_95_49 {d nS : Nat} {x2 x3 x4 : Int32} {M : am_M} {Q : Option Value → am_H → Prop} : am_Wp (d + 1) 95 49 [.ref 17, .ref 18, .int x2, .int x3, .int x4] [] (hp nS M) Q = am_Wp d 98 0 [.ref 17, .ref 18, .retAddr 0, .retAddr 0] [] (hp nS M) (fun v h1 => am_Wp (d + 1) 95 54 [.ref 17, .ref 18, .int x2, .int x3, .int x4] (am_ans v []) h1 Q) := by
  refine (eq_run 2 (q := (51, [.ref 17, .ref 18, .int x2, .int x3, .int x4], [.ref 18, .ref 17], hp nS M)) (by with_unfolding_all rfl)).trans ?_
  exact eq_call2 (e := (.invokevirtual 100, 3, 0, 98, 165)) (as := [.ref 17, .ref 18]) (r := []) (n := 2) (m := 4) (by with_unfolding_all rfl) rfl (by decide) (by with_unfolding_all rfl) (by decide) (by with_unfolding_all rfl) ⟨fun _ => am_rec_ok (c := 11) (by with_unfolding_all rfl) (by decide +kernel), fun z => by simp at z⟩
set_option maxRecDepth 20000 in
theorem b_95_54 {d nS : Nat} {x2 x3 x4 : Int32} {M : am_M} {Q : Option Value → am_H → Prop} : am_Wp d 95 54 [.ref 17, .ref 18, .int x2, .int x3, .int x4] [] (hp nS M) Q = am_Wp d 95 57 [.ref 17, .ref 18, .int x2, .int x3, .int 0] [] (hp nS M) Q := by
  exact eq_run 2 (q := (57, [.ref 17, .ref 18, .int x2, .int x3, .int 0], [], hp nS M)) (by with_unfolding_all rfl)
set_option maxRecDepth 20000 in
theorem b_95_57 {d nS : Nat} {x2 x3 x4 : Int32} {M : am_M} {Q : Option Value → am_H → Prop} : am_Wp d 95 57 [.ref 17, .ref 18, .int x2, .int x3, .int x4] [] (hp nS M) Q = if (M 41 1) ≤ x4 then am_Wp d 95 100 [.ref 17, .ref 18, .int x2, .int x3, .int x4] [] (hp nS M) Q else am_Wp d 95 69 [.ref 17, .ref 18, .int x2, .int x3, .int x4] [] (hp nS M) Q := by
  refine (eq_run 4 (q := (66, [.ref 17, .ref 18, .int x2, .int x3, .int x4], [.int (M 41 1), .int x4], hp nS M)) (by with_unfolding_all rfl)).trans ?_
  exact eq_cmp_ge (by with_unfolding_all rfl)
set_option maxRecDepth 20000 in
theorem b_95_69 {d nS : Nat} {x2 x3 x4 : Int32} {M : am_M} {Q : Option Value → am_H → Prop} : am_Wp (d + 1) 95 69 [.ref 17, .ref 18, .int x2, .int x3, .int x4] [] (hp nS M) Q = am_Wp d 33 0 [.ref 41, .int x4, .int 0] [] (hp nS M) (fun v h1 => am_Wp (d + 1) 95 79 [.ref 17, .ref 18, .int x2, .int x3, .int x4] (am_ans v []) h1 Q) := by
  refine (eq_run 4 (q := (76, [.ref 17, .ref 18, .int x2, .int x3, .int x4], [.int 0, .int x4, .ref 41], hp nS M)) (by with_unfolding_all rfl)).trans ?_
  exact eq_call2 (e := (.invokevirtual 106, 3, 0, 33, 166)) (as := [.ref 41, .int x4, .int 0]) (r := []) (n := 3) (m := 3) (by with_unfolding_all rfl) rfl (by decide) (by with_unfolding_all rfl) (by decide) (by with_unfolding_all rfl) ⟨fun _ => am_rec_ok (c := 6) (by with_unfolding_all rfl) (by decide +kernel), fun z => by simp at z⟩
set_option maxRecDepth 20000 in
theorem b_95_79 {d nS : Nat} {x2 x3 x4 s0 : Int32} {M : am_M} {Q : Option Value → am_H → Prop} : am_Wp d 95 79 [.ref 17, .ref 18, .int x2, .int x3, .int x4] [.int s0] (hp nS M) Q = if ¬ s0 = (M 18 4) then am_Wp d 95 94 [.ref 17, .ref 18, .int x2, .int x3, .int x4] [] (hp nS M) Q else am_Wp d 95 86 [.ref 17, .ref 18, .int x2, .int x3, .int x4] [] (hp nS M) Q := by
  refine (eq_run 2 (q := (83, [.ref 17, .ref 18, .int x2, .int x3, .int x4], [.int (M 18 4), .int s0], hp nS M)) (by with_unfolding_all rfl)).trans ?_
  exact eq_cmp_ne (by with_unfolding_all rfl)
set_option maxRecDepth 20000 in
theorem b_95_86 {d nS : Nat} {x2 x3 x4 : Int32} {M : am_M} {Q : Option Value → am_H → Prop} : am_Wp (d + 1) 95 86 [.ref 17, .ref 18, .int x2, .int x3, .int x4] [] (hp nS M) Q = am_Wp d 99 0 [.ref 17, .ref 18, .int x4, .int x2, .retAddr 0, .retAddr 0, .retAddr 0] [] (hp nS M) (fun v h1 => am_Wp (d + 1) 95 94 [.ref 17, .ref 18, .int x2, .int x3, .int x4] (am_ans v []) h1 Q) := by
  refine (eq_run 4 (q := (91, [.ref 17, .ref 18, .int x2, .int x3, .int x4], [.int x2, .int x4, .ref 18, .ref 17], hp nS M)) (by with_unfolding_all rfl)).trans ?_
  exact eq_call2 (e := (.invokevirtual 113, 3, 0, 99, 167)) (as := [.ref 17, .ref 18, .int x4, .int x2]) (r := []) (n := 4) (m := 7) (by with_unfolding_all rfl) rfl (by decide) (by with_unfolding_all rfl) (by decide) (by with_unfolding_all rfl) ⟨fun _ => am_rec_ok (c := 11) (by with_unfolding_all rfl) (by decide +kernel), fun z => by simp at z⟩
set_option maxRecDepth 20000 in
theorem b_95_94 {d nS : Nat} {x2 x3 x4 : Int32} {M : am_M} {Q : Option Value → am_H → Prop} : am_Wp d 95 94 [.ref 17, .ref 18, .int x2, .int x3, .int x4] [] (hp nS M) Q = am_Wp d 95 57 [.ref 17, .ref 18, .int x2, .int x3, .int (x4 + 1)] [] (hp nS M) Q := by
  exact eq_run 2 (q := (57, [.ref 17, .ref 18, .int x2, .int x3, .int (x4 + 1)], [], hp nS M)) (by with_unfolding_all rfl)
set_option maxRecDepth 20000 in
theorem b_95_100 {d nS : Nat} {x2 x3 x4 : Int32} {M : am_M} {Q : Option Value → am_H → Prop} : am_Wp (d + 1) 95 100 [.ref 17, .ref 18, .int x2, .int x3, .int x4] [] (hp nS M) Q = am_Wp d 100 0 [.ref 17, .ref 18, .int x2, .retAddr 0, .retAddr 0] [] (hp nS M) (fun v h1 => am_Wp (d + 1) 95 106 [.ref 17, .ref 18, .int x2, .int x3, .int x4] (am_ans v []) h1 Q) := by
  refine (eq_run 3 (q := (103, [.ref 17, .ref 18, .int x2, .int x3, .int x4], [.int x2, .ref 18, .ref 17], hp nS M)) (by with_unfolding_all rfl)).trans ?_
  exact eq_call2 (e := (.invokevirtual 117, 3, 0, 100, 168)) (as := [.ref 17, .ref 18, .int x2]) (r := []) (n := 3) (m := 5) (by with_unfolding_all rfl) rfl (by decide) (by with_unfolding_all rfl) (by decide) (by with_unfolding_all rfl) ⟨fun _ => am_rec_ok (c := 11) (by with_unfolding_all rfl) (by decide +kernel), fun z => by simp at z⟩
set_option maxRecDepth 20000 in
theorem b_95_106 {d nS : Nat} {x2 x3 x4 : Int32} {M : am_M} {Q : Option Value → am_H → Prop} : am_Wp d 95 106 [.ref 17, .ref 18, .int x2, .int x3, .int x4] [] (hp nS M) Q = Q (some (.int x3)) (hp nS (am_up M 18 4 ((M 18 4) + 1))) := by
  refine (eq_run 7 (q := (117, [.ref 17, .ref 18, .int x2, .int x3, .int x4], [.int x3], hp nS (am_up M 18 4 ((M 18 4) + 1)))) (by with_unfolding_all rfl)).trans ?_
  exact eq_retI2 (e := (.ireturn, 1, 0, 0, 0)) (t := .int) (by with_unfolding_all rfl) rfl (by with_unfolding_all rfl) rfl
