-- LarkExchange$Bench changes(III)Z (2, (54, None, None, None))
set_option maxRecDepth 20000 in
theorem b_2_0 {d nS : Nat} {x1 x2 x3 : Int32} {M : am_M} {Q : Option Value → am_H → Prop} : am_Wp (d + 1) 2 0 [.ref 54, .int x1, .int x2, .int x3] [] (hp nS M) Q = am_Wp d 125 0 [.int x1, .int 0, .int 3] [] (hp nS M) (fun v h1 => am_Wp (d + 1) 2 6 [.ref 54, .int x1, .int x2, .int x3] (am_ans v []) h1 Q) := by
  refine (eq_run 3 (q := (3, [.ref 54, .int x1, .int x2, .int x3], [.int 3, .int 0, .int x1], hp nS M)) (by with_unfolding_all rfl)).trans ?_
  exact eq_call2 (e := (.invokestatic 32, 3, 3, 125, 69)) (as := [.int x1, .int 0, .int 3]) (r := []) (n := 3) (m := 3) (by with_unfolding_all rfl) rfl (by decide) (by with_unfolding_all rfl) (by decide) (by with_unfolding_all rfl) ⟨fun z => absurd z (by decide), fun z => by simp at z⟩
set_option maxRecDepth 20000 in
theorem b_2_6 {d nS : Nat} {x1 x2 x3 s0 : Int32} {M : am_M} {Q : Option Value → am_H → Prop} : am_Wp d 2 6 [.ref 54, .int x1, .int x2, .int x3] [.int s0] (hp nS M) Q = if ¬ s0 = 0 then am_Wp d 2 23 [.ref 54, .int x1, .int x2, .int x3] [] (hp nS M) Q else am_Wp d 2 9 [.ref 54, .int x1, .int x2, .int x3] [] (hp nS M) Q := by
  exact eq_if_ne (by with_unfolding_all rfl)
set_option maxRecDepth 20000 in
theorem b_2_9 {d nS : Nat} {x1 x2 x3 : Int32} {M : am_M} {Q : Option Value → am_H → Prop} : am_Wp (d + 1) 2 9 [.ref 54, .int x1, .int x2, .int x3] [] (hp nS M) Q = am_Wp d 125 0 [.int x2, .int 0, .int 3] [] (hp nS M) (fun v h1 => am_Wp (d + 1) 2 15 [.ref 54, .int x1, .int x2, .int x3] (am_ans v []) h1 Q) := by
  refine (eq_run 3 (q := (12, [.ref 54, .int x1, .int x2, .int x3], [.int 3, .int 0, .int x2], hp nS M)) (by with_unfolding_all rfl)).trans ?_
  exact eq_call2 (e := (.invokestatic 32, 3, 3, 125, 69)) (as := [.int x2, .int 0, .int 3]) (r := []) (n := 3) (m := 3) (by with_unfolding_all rfl) rfl (by decide) (by with_unfolding_all rfl) (by decide) (by with_unfolding_all rfl) ⟨fun z => absurd z (by decide), fun z => by simp at z⟩
set_option maxRecDepth 20000 in
theorem b_2_15 {d nS : Nat} {x1 x2 x3 s0 : Int32} {M : am_M} {Q : Option Value → am_H → Prop} : am_Wp d 2 15 [.ref 54, .int x1, .int x2, .int x3] [.int s0] (hp nS M) Q = if ¬ s0 = 0 then am_Wp d 2 23 [.ref 54, .int x1, .int x2, .int x3] [] (hp nS M) Q else am_Wp d 2 18 [.ref 54, .int x1, .int x2, .int x3] [] (hp nS M) Q := by
  exact eq_if_ne (by with_unfolding_all rfl)
set_option maxRecDepth 20000 in
theorem b_2_18 {d nS : Nat} {x1 x2 x3 : Int32} {M : am_M} {Q : Option Value → am_H → Prop} : am_Wp d 2 18 [.ref 54, .int x1, .int x2, .int x3] [] (hp nS M) Q = if ¬ x1 = x2 then am_Wp d 2 25 [.ref 54, .int x1, .int x2, .int x3] [] (hp nS M) Q else am_Wp d 2 23 [.ref 54, .int x1, .int x2, .int x3] [] (hp nS M) Q := by
  refine (eq_run 2 (q := (20, [.ref 54, .int x1, .int x2, .int x3], [.int x2, .int x1], hp nS M)) (by with_unfolding_all rfl)).trans ?_
  exact eq_cmp_ne (by with_unfolding_all rfl)
set_option maxRecDepth 20000 in
theorem b_2_23 {d nS : Nat} {x1 x2 x3 : Int32} {M : am_M} {Q : Option Value → am_H → Prop} : am_Wp d 2 23 [.ref 54, .int x1, .int x2, .int x3] [] (hp nS M) Q = Q (some (.int 0)) (hp nS M) := by
  refine (eq_run 1 (q := (24, [.ref 54, .int x1, .int x2, .int x3], [.int 0], hp nS M)) (by with_unfolding_all rfl)).trans ?_
  exact eq_retI2 (e := (.ireturn, 1, 0, 0, 0)) (t := .boolean) (by with_unfolding_all rfl) rfl (by with_unfolding_all rfl) rfl
set_option maxRecDepth 20000 in
theorem b_2_25 {d nS : Nat} {x1 x2 x3 : Int32} {M : am_M} {Q : Option Value → am_H → Prop} : am_Wp d 2 25 [.ref 54, .int x1, .int x2, .int x3] [] (hp nS M) Q = if x3 = 0 then am_Wp d 2 49 [.ref 54, .int x1, .int x2, .int x3] [] (hp nS M) Q else am_Wp d 2 29 [.ref 54, .int x1, .int x2, .int x3] [] (hp nS M) Q := by
  refine (eq_run 1 (q := (26, [.ref 54, .int x1, .int x2, .int x3], [.int x3], hp nS M)) (by with_unfolding_all rfl)).trans ?_
  exact eq_if_eq (by with_unfolding_all rfl)
set_option maxRecDepth 20000 in
theorem b_2_29 {d nS : Nat} {x1 x2 x3 : Int32} {M : am_M} {Q : Option Value → am_H → Prop} : am_Wp (d + 1) 2 29 [.ref 54, .int x1, .int x2, .int x3] [] (hp nS M) Q = am_Wp d 125 0 [.int x3, .int 11, .int 99] [] (hp nS M) (fun v h1 => am_Wp (d + 1) 2 37 [.ref 54, .int x1, .int x2, .int x3] (am_ans v []) h1 Q) := by
  refine (eq_run 3 (q := (34, [.ref 54, .int x1, .int x2, .int x3], [.int 99, .int 11, .int x3], hp nS M)) (by with_unfolding_all rfl)).trans ?_
  exact eq_call2 (e := (.invokestatic 32, 3, 3, 125, 69)) (as := [.int x3, .int 11, .int 99]) (r := []) (n := 3) (m := 3) (by with_unfolding_all rfl) rfl (by decide) (by with_unfolding_all rfl) (by decide) (by with_unfolding_all rfl) ⟨fun z => absurd z (by decide), fun z => by simp at z⟩
set_option maxRecDepth 20000 in
theorem b_2_37 {d nS : Nat} {x1 x2 x3 s0 : Int32} {M : am_M} {Q : Option Value → am_H → Prop} : am_Wp d 2 37 [.ref 54, .int x1, .int x2, .int x3] [.int s0] (hp nS M) Q = if ¬ s0 = 0 then am_Wp d 2 47 [.ref 54, .int x1, .int x2, .int x3] [] (hp nS M) Q else am_Wp d 2 40 [.ref 54, .int x1, .int x2, .int x3] [] (hp nS M) Q := by
  exact eq_if_ne (by with_unfolding_all rfl)
set_option maxRecDepth 20000 in
theorem b_2_40 {d nS : Nat} {x1 x2 x3 : Int32} {M : am_M} {Q : Option Value → am_H → Prop} : am_Wp d 2 40 [.ref 54, .int x1, .int x2, .int x3] [] (hp nS M) Q = if ¬ (x3 - x3 / 10 * 10) = 0 then am_Wp d 2 49 [.ref 54, .int x1, .int x2, .int x3] [] (hp nS M) Q else am_Wp d 2 47 [.ref 54, .int x1, .int x2, .int x3] [] (hp nS M) Q := by
  refine (eq_run 3 (q := (44, [.ref 54, .int x1, .int x2, .int x3], [.int (x3 - x3 / 10 * 10)], hp nS M)) (by with_unfolding_all rfl)).trans ?_
  exact eq_if_ne (by with_unfolding_all rfl)
set_option maxRecDepth 20000 in
theorem b_2_47 {d nS : Nat} {x1 x2 x3 : Int32} {M : am_M} {Q : Option Value → am_H → Prop} : am_Wp d 2 47 [.ref 54, .int x1, .int x2, .int x3] [] (hp nS M) Q = Q (some (.int 0)) (hp nS M) := by
  refine (eq_run 1 (q := (48, [.ref 54, .int x1, .int x2, .int x3], [.int 0], hp nS M)) (by with_unfolding_all rfl)).trans ?_
  exact eq_retI2 (e := (.ireturn, 1, 0, 0, 0)) (t := .boolean) (by with_unfolding_all rfl) rfl (by with_unfolding_all rfl) rfl
set_option maxRecDepth 20000 in
theorem b_2_49 {d nS : Nat} {x1 x2 x3 : Int32} {M : am_M} {Q : Option Value → am_H → Prop} (h1 : vp_in ((x1 * 4) + x2) 16) : am_Wp d 2 49 [.ref 54, .int x1, .int x2, .int x3] [] (hp nS M) Q = Q (some (.int 1)) (hp nS (am_up M 55 ((x1 * 4) + x2).toNatClampNeg x3)) := by
  refine (eq_run 8 (q := (59, [.ref 54, .int x1, .int x2, .int x3], [.int x3, .int ((x1 * 4) + x2), .ref 55], hp nS M)) (by with_unfolding_all rfl)).trans ?_
  refine (eq_ast (e := (.iastore, 1, 0, 0, 0)) (by with_unfolding_all rfl) rfl (n := 16) (by with_unfolding_all rfl) (by decide) h1).trans ?_
  refine (eq_run 1 (q := (61, [.ref 54, .int x1, .int x2, .int x3], [.int 1], hp nS (am_up M 55 ((x1 * 4) + x2).toNatClampNeg x3))) (by with_unfolding_all rfl)).trans ?_
  exact eq_retI2 (e := (.ireturn, 1, 0, 0, 0)) (t := .boolean) (by with_unfolding_all rfl) rfl (by with_unfolding_all rfl) rfl
-- LarkExchange$Bench bestRound(II)I (3, (54, None, None))
set_option maxRecDepth 20000 in
theorem b_3_0 {d nS : Nat} {x1 x2 : Int32} {M : am_M} {Q : Option Value → am_H → Prop} : am_Wp (d + 1) 3 0 [.ref 54, .int x1, .int x2, .retAddr 0] [] (hp nS M) Q = am_Wp d 4 0 [.ref 54, .int x1, .int x1, .int (1 <<< (x1 &&& 31)), .int 1, .int 1, .retAddr 0, .retAddr 0, .retAddr 0, .retAddr 0] [] (hp nS (am_up (am_up M 54 5 (-1)) 54 6 (-1))) (fun v h1 => am_Wp (d + 1) 3 21 [.ref 54, .int x1, .int x2, .retAddr 0] (am_ans v []) h1 Q) := by
  refine (eq_run 14 (q := (18, [.ref 54, .int x1, .int x2, .retAddr 0], [.int 1, .int 1, .int (1 <<< (x1 &&& 31)), .int x1, .int x1, .ref 54], hp nS (am_up (am_up M 54 5 (-1)) 54 6 (-1)))) (by with_unfolding_all rfl)).trans ?_
  exact eq_call2 (e := (.invokevirtual 42, 3, 0, 4, 70)) (as := [.ref 54, .int x1, .int x1, .int (1 <<< (x1 &&& 31)), .int 1, .int 1]) (r := []) (n := 6) (m := 10) (by with_unfolding_all rfl) rfl (by decide) (by with_unfolding_all rfl) (by decide) (by with_unfolding_all rfl) ⟨fun _ => am_rec_ok (c := 3) (by with_unfolding_all rfl) (by decide +kernel), fun z => by simp at z⟩
set_option maxRecDepth 20000 in
theorem b_3_21 {d nS : Nat} {x1 x2 : Int32} {M : am_M} {Q : Option Value → am_H → Prop} : am_Wp d 3 21 [.ref 54, .int x1, .int x2, .retAddr 0] [] (hp nS M) Q = if ¬ (M 54 5) = (-1) then am_Wp d 3 31 [.ref 54, .int x1, .int x2, .retAddr 0] [] (hp nS M) Q else am_Wp d 3 29 [.ref 54, .int x1, .int x2, .retAddr 0] [] (hp nS M) Q := by
  refine (eq_run 3 (q := (26, [.ref 54, .int x1, .int x2, .retAddr 0], [.int (-1), .int (M 54 5)], hp nS M)) (by with_unfolding_all rfl)).trans ?_
  exact eq_cmp_ne (by with_unfolding_all rfl)
set_option maxRecDepth 20000 in
theorem b_3_29 {d nS : Nat} {x1 x2 : Int32} {M : am_M} {Q : Option Value → am_H → Prop} : am_Wp d 3 29 [.ref 54, .int x1, .int x2, .retAddr 0] [] (hp nS M) Q = Q (some (.int (-1))) (hp nS M) := by
  refine (eq_run 1 (q := (30, [.ref 54, .int x1, .int x2, .retAddr 0], [.int (-1)], hp nS M)) (by with_unfolding_all rfl)).trans ?_
  exact eq_retI2 (e := (.ireturn, 1, 0, 0, 0)) (t := .int) (by with_unfolding_all rfl) rfl (by with_unfolding_all rfl) rfl
set_option maxRecDepth 20000 in
theorem b_3_31 {d nS : Nat} {x1 x2 : Int32} {M : am_M} {Q : Option Value → am_H → Prop} : am_Wp (d + 1) 3 31 [.ref 54, .int x1, .int x2, .retAddr 0] [] (hp nS M) Q = am_Wp d 148 0 [.int (M 54 5), .int (M 54 6), .retAddr 0, .retAddr 0, .retAddr 0, .retAddr 0] [] (hp nS M) (fun v h1 => am_Wp (d + 1) 3 42 [.ref 54, .int x1, .int x2, .retAddr 0] (am_ans v []) h1 Q) := by
  refine (eq_run 4 (q := (39, [.ref 54, .int x1, .int x2, .retAddr 0], [.int (M 54 6), .int (M 54 5)], hp nS M)) (by with_unfolding_all rfl)).trans ?_
  exact eq_call2 (e := (.invokestatic 46, 3, 3, 148, 71)) (as := [.int (M 54 5), .int (M 54 6)]) (r := []) (n := 2) (m := 6) (by with_unfolding_all rfl) rfl (by decide) (by with_unfolding_all rfl) (by decide) (by with_unfolding_all rfl) ⟨fun z => absurd z (by decide), fun z => by simp at z⟩
set_option maxRecDepth 20000 in
theorem b_3_42 {d nS : Nat} {x1 x2 s0 : Int32} {M : am_M} {Q : Option Value → am_H → Prop} : am_Wp d 3 42 [.ref 54, .int x1, .int x2, .retAddr 0] [.int s0] (hp nS M) Q = if ¬ x2 = 0 then am_Wp d 3 56 [.ref 54, .int x1, .int x2, .int s0] [] (hp nS M) Q else am_Wp d 3 47 [.ref 54, .int x1, .int x2, .int s0] [] (hp nS M) Q := by
  refine (eq_run 2 (q := (44, [.ref 54, .int x1, .int x2, .int s0], [.int x2], hp nS M)) (by with_unfolding_all rfl)).trans ?_
  exact eq_if_ne (by with_unfolding_all rfl)
set_option maxRecDepth 20000 in
theorem b_3_47 {d nS : Nat} {x1 x2 x3 : Int32} {M : am_M} {Q : Option Value → am_H → Prop} (h1 : ¬ x3 = 0) : am_Wp d 3 47 [.ref 54, .int x1, .int x2, .int x3] [] (hp nS M) Q = am_Wp d 3 62 [.ref 54, .int x1, .int x2, .int x3] [.int ((M 54 5) / x3)] (hp nS M) Q := by
  refine (eq_run 3 (q := (52, [.ref 54, .int x1, .int x2, .int x3], [.int x3, .int (M 54 5)], hp nS M)) (by with_unfolding_all rfl)).trans ?_
  refine (eq_div (e := (.idiv, 1, 0, 0, 0)) (by with_unfolding_all rfl) rfl h1).trans ?_
  exact eq_run 1 (q := (62, [.ref 54, .int x1, .int x2, .int x3], [.int ((M 54 5) / x3)], hp nS M)) (by with_unfolding_all rfl)
set_option maxRecDepth 20000 in
theorem b_3_56 {d nS : Nat} {x1 x2 x3 : Int32} {M : am_M} {Q : Option Value → am_H → Prop} (h1 : ¬ x3 = 0) : am_Wp d 3 56 [.ref 54, .int x1, .int x2, .int x3] [] (hp nS M) Q = am_Wp d 3 62 [.ref 54, .int x1, .int x2, .int x3] [.int ((M 54 6) / x3)] (hp nS M) Q := by
  refine (eq_run 3 (q := (61, [.ref 54, .int x1, .int x2, .int x3], [.int x3, .int (M 54 6)], hp nS M)) (by with_unfolding_all rfl)).trans ?_
  exact eq_div (e := (.idiv, 1, 0, 0, 0)) (by with_unfolding_all rfl) rfl h1
set_option maxRecDepth 20000 in
theorem b_3_62 {d nS : Nat} {x1 x2 x3 s0 : Int32} {M : am_M} {Q : Option Value → am_H → Prop} : am_Wp d 3 62 [.ref 54, .int x1, .int x2, .int x3] [.int s0] (hp nS M) Q = Q (some (.int s0)) (hp nS M) := by
  exact eq_retI2 (e := (.ireturn, 1, 0, 0, 0)) (t := .int) (by with_unfolding_all rfl) rfl (by with_unfolding_all rfl) rfl
-- LarkExchange$Bench roams(IIIII)V (4, (54, None, None, None, None, None))
set_option maxRecDepth 20000 in
theorem b_4_0 {d nS : Nat} {x1 x2 x3 x4 x5 : Int32} {M : am_M} {Q : Option Value → am_H → Prop} : am_Wp d 4 0 [.ref 54, .int x1, .int x2, .int x3, .int x4, .int x5, .retAddr 0, .retAddr 0, .retAddr 0, .retAddr 0] [] (hp nS M) Q = am_Wp d 4 3 [.ref 54, .int x1, .int x2, .int x3, .int x4, .int x5, .int 0, .retAddr 0, .retAddr 0, .retAddr 0] [] (hp nS M) Q := by
  exact eq_run 2 (q := (3, [.ref 54, .int x1, .int x2, .int x3, .int x4, .int x5, .int 0, .retAddr 0, .retAddr 0, .retAddr 0], [], hp nS M)) (by with_unfolding_all rfl)
set_option maxRecDepth 20000 in
theorem b_4_3 {d nS : Nat} {x1 x2 x3 x4 x5 x6 : Int32} {zx7 zx8 zx9 : Value} {M : am_M} {Q : Option Value → am_H → Prop} : am_Wp d 4 3 [.ref 54, .int x1, .int x2, .int x3, .int x4, .int x5, .int x6, zx7, zx8, zx9] [] (hp nS M) Q = if 4 ≤ x6 then am_Wp d 4 99 [.ref 54, .int x1, .int x2, .int x3, .int x4, .int x5, .int x6, zx7, zx8, zx9] [] (hp nS M) Q else am_Wp d 4 9 [.ref 54, .int x1, .int x2, .int x3, .int x4, .int x5, .int x6, zx7, zx8, zx9] [] (hp nS M) Q := by
  refine (eq_run 2 (q := (6, [.ref 54, .int x1, .int x2, .int x3, .int x4, .int x5, .int x6, zx7, zx8, zx9], [.int 4, .int x6], hp nS M)) (by with_unfolding_all rfl)).trans ?_
  exact eq_cmp_ge (by with_unfolding_all rfl)
set_option maxRecDepth 20000 in
theorem b_4_9 {d nS : Nat} {x1 x2 x3 x4 x5 x6 : Int32} {zx7 zx8 zx9 : Value} {M : am_M} {Q : Option Value → am_H → Prop} (h1 : vp_in ((x2 * 4) + x6) 16) : am_Wp d 4 9 [.ref 54, .int x1, .int x2, .int x3, .int x4, .int x5, .int x6, zx7, zx8, zx9] [] (hp nS M) Q = if ¬ (M 55 ((x2 * 4) + x6).toNatClampNeg) = 0 then am_Wp d 4 30 [.ref 54, .int x1, .int x2, .int x3, .int x4, .int x5, .int x6, .int (M 55 ((x2 * 4) + x6).toNatClampNeg), zx8, zx9] [] (hp nS M) Q else am_Wp d 4 27 [.ref 54, .int x1, .int x2, .int x3, .int x4, .int x5, .int x6, .int (M 55 ((x2 * 4) + x6).toNatClampNeg), zx8, zx9] [] (hp nS M) Q := by
  refine (eq_run 7 (q := (19, [.ref 54, .int x1, .int x2, .int x3, .int x4, .int x5, .int x6, zx7, zx8, zx9], [.int ((x2 * 4) + x6), .ref 55], hp nS M)) (by with_unfolding_all rfl)).trans ?_
  refine (eq_ald (e := (.iaload, 1, 0, 0, 0)) (by with_unfolding_all rfl) rfl (n := 16) (by with_unfolding_all rfl) h1).trans ?_
  refine (eq_run 2 (q := (24, [.ref 54, .int x1, .int x2, .int x3, .int x4, .int x5, .int x6, .int (M 55 ((x2 * 4) + x6).toNatClampNeg), zx8, zx9], [.int (M 55 ((x2 * 4) + x6).toNatClampNeg)], hp nS M)) (by with_unfolding_all rfl)).trans ?_
  exact eq_if_ne (by with_unfolding_all rfl)
set_option maxRecDepth 20000 in
theorem b_4_27 {d nS : Nat} {x1 x2 x3 x4 x5 x6 x7 : Int32} {zx8 zx9 : Value} {M : am_M} {Q : Option Value → am_H → Prop} : am_Wp d 4 27 [.ref 54, .int x1, .int x2, .int x3, .int x4, .int x5, .int x6, .int x7, zx8, zx9] [] (hp nS M) Q = am_Wp d 4 93 [.ref 54, .int x1, .int x2, .int x3, .int x4, .int x5, .int x6, .int x7, zx8, zx9] [] (hp nS M) Q := by
  exact eq_run 1 (q := (93, [.ref 54, .int x1, .int x2, .int x3, .int x4, .int x5, .int x6, .int x7, zx8, zx9], [], hp nS M)) (by with_unfolding_all rfl)
set_option maxRecDepth 20000 in
theorem b_4_30 {d nS : Nat} {x1 x2 x3 x4 x5 x6 x7 : Int32} {zx8 zx9 : Value} {M : am_M} {Q : Option Value → am_H → Prop} : am_Wp d 4 30 [.ref 54, .int x1, .int x2, .int x3, .int x4, .int x5, .int x6, .int x7, zx8, zx9] [] (hp nS M) Q = if ¬ x6 = x1 then am_Wp d 4 67 [.ref 54, .int x1, .int x2, .int x3, .int x4, .int x5, .int x6, .int x7, .int (x4 * (x7 / 10)), .int (x5 * (x7 - x7 / 10 * 10))] [] (hp nS M) Q else am_Wp d 4 56 [.ref 54, .int x1, .int x2, .int x3, .int x4, .int x5, .int x6, .int x7, .int (x4 * (x7 / 10)), .int (x5 * (x7 - x7 / 10 * 10))] [] (hp nS M) Q := by
  refine (eq_run 14 (q := (53, [.ref 54, .int x1, .int x2, .int x3, .int x4, .int x5, .int x6, .int x7, .int (x4 * (x7 / 10)), .int (x5 * (x7 - x7 / 10 * 10))], [.int x1, .int x6], hp nS M)) (by with_unfolding_all rfl)).trans ?_
  exact eq_cmp_ne (by with_unfolding_all rfl)
set_option maxRecDepth 20000 in
theorem b_4_56 {d nS : Nat} {x1 x2 x3 x4 x5 x6 x7 x8 x9 : Int32} {M : am_M} {Q : Option Value → am_H → Prop} : am_Wp (d + 1) 4 56 [.ref 54, .int x1, .int x2, .int x3, .int x4, .int x5, .int x6, .int x7, .int x8, .int x9] [] (hp nS M) Q = am_Wp d 5 0 [.ref 54, .int x8, .int x9] [] (hp nS M) (fun v h1 => am_Wp (d + 1) 4 64 [.ref 54, .int x1, .int x2, .int x3, .int x4, .int x5, .int x6, .int x7, .int x8, .int x9] (am_ans v []) h1 Q) := by
  refine (eq_run 3 (q := (61, [.ref 54, .int x1, .int x2, .int x3, .int x4, .int x5, .int x6, .int x7, .int x8, .int x9], [.int x9, .int x8, .ref 54], hp nS M)) (by with_unfolding_all rfl)).trans ?_
  exact eq_call2 (e := (.invokevirtual 50, 3, 0, 5, 72)) (as := [.ref 54, .int x8, .int x9]) (r := []) (n := 3) (m := 3) (by with_unfolding_all rfl) rfl (by decide) (by with_unfolding_all rfl) (by decide) (by with_unfolding_all rfl) ⟨fun _ => am_rec_ok (c := 3) (by with_unfolding_all rfl) (by decide +kernel), fun z => by simp at z⟩
set_option maxRecDepth 20000 in
theorem b_4_64 {d nS : Nat} {x1 x2 x3 x4 x5 x6 x7 x8 x9 : Int32} {M : am_M} {Q : Option Value → am_H → Prop} : am_Wp d 4 64 [.ref 54, .int x1, .int x2, .int x3, .int x4, .int x5, .int x6, .int x7, .int x8, .int x9] [] (hp nS M) Q = am_Wp d 4 93 [.ref 54, .int x1, .int x2, .int x3, .int x4, .int x5, .int x6, .int x7, .int x8, .int x9] [] (hp nS M) Q := by
  exact eq_run 1 (q := (93, [.ref 54, .int x1, .int x2, .int x3, .int x4, .int x5, .int x6, .int x7, .int x8, .int x9], [], hp nS M)) (by with_unfolding_all rfl)
set_option maxRecDepth 20000 in
theorem b_4_67 {d nS : Nat} {x1 x2 x3 x4 x5 x6 x7 x8 x9 : Int32} {M : am_M} {Q : Option Value → am_H → Prop} : am_Wp d 4 67 [.ref 54, .int x1, .int x2, .int x3, .int x4, .int x5, .int x6, .int x7, .int x8, .int x9] [] (hp nS M) Q = if ¬ ((x3 >>> (x6 &&& 31)) &&& 1) = 0 then am_Wp d 4 93 [.ref 54, .int x1, .int x2, .int x3, .int x4, .int x5, .int x6, .int x7, .int x8, .int x9] [] (hp nS M) Q else am_Wp d 4 76 [.ref 54, .int x1, .int x2, .int x3, .int x4, .int x5, .int x6, .int x7, .int x8, .int x9] [] (hp nS M) Q := by
  refine (eq_run 5 (q := (73, [.ref 54, .int x1, .int x2, .int x3, .int x4, .int x5, .int x6, .int x7, .int x8, .int x9], [.int ((x3 >>> (x6 &&& 31)) &&& 1)], hp nS M)) (by with_unfolding_all rfl)).trans ?_
  exact eq_if_ne (by with_unfolding_all rfl)
set_option maxRecDepth 20000 in
theorem b_4_76 {d nS : Nat} {x1 x2 x3 x4 x5 x6 x7 x8 x9 : Int32} {M : am_M} {Q : Option Value → am_H → Prop} : am_Wp (d + 1) 4 76 [.ref 54, .int x1, .int x2, .int x3, .int x4, .int x5, .int x6, .int x7, .int x8, .int x9] [] (hp nS M) Q = am_Wp d 4 0 [.ref 54, .int x1, .int x6, .int (x3 ||| (1 <<< (x6 &&& 31))), .int x8, .int x9, .retAddr 0, .retAddr 0, .retAddr 0, .retAddr 0] [] (hp nS M) (fun v h1 => am_Wp (d + 1) 4 93 [.ref 54, .int x1, .int x2, .int x3, .int x4, .int x5, .int x6, .int x7, .int x8, .int x9] (am_ans v []) h1 Q) := by
  refine (eq_run 10 (q := (90, [.ref 54, .int x1, .int x2, .int x3, .int x4, .int x5, .int x6, .int x7, .int x8, .int x9], [.int x9, .int x8, .int (x3 ||| (1 <<< (x6 &&& 31))), .int x6, .int x1, .ref 54], hp nS M)) (by with_unfolding_all rfl)).trans ?_
  exact eq_call2 (e := (.invokevirtual 42, 3, 0, 4, 70)) (as := [.ref 54, .int x1, .int x6, .int (x3 ||| (1 <<< (x6 &&& 31))), .int x8, .int x9]) (r := []) (n := 6) (m := 10) (by with_unfolding_all rfl) rfl (by decide) (by with_unfolding_all rfl) (by decide) (by with_unfolding_all rfl) ⟨fun _ => am_rec_ok (c := 3) (by with_unfolding_all rfl) (by decide +kernel), fun z => by simp at z⟩
set_option maxRecDepth 20000 in
theorem b_4_93 {d nS : Nat} {x1 x2 x3 x4 x5 x6 x7 : Int32} {zx8 zx9 : Value} {M : am_M} {Q : Option Value → am_H → Prop} : am_Wp d 4 93 [.ref 54, .int x1, .int x2, .int x3, .int x4, .int x5, .int x6, .int x7, zx8, zx9] [] (hp nS M) Q = am_Wp d 4 3 [.ref 54, .int x1, .int x2, .int x3, .int x4, .int x5, .int (x6 + 1), .int x7, zx8, zx9] [] (hp nS M) Q := by
  exact eq_run 2 (q := (3, [.ref 54, .int x1, .int x2, .int x3, .int x4, .int x5, .int (x6 + 1), .int x7, zx8, zx9], [], hp nS M)) (by with_unfolding_all rfl)
set_option maxRecDepth 20000 in
theorem b_4_99 {d nS : Nat} {x1 x2 x3 x4 x5 x6 : Int32} {zx7 zx8 zx9 : Value} {M : am_M} {Q : Option Value → am_H → Prop} : am_Wp d 4 99 [.ref 54, .int x1, .int x2, .int x3, .int x4, .int x5, .int x6, zx7, zx8, zx9] [] (hp nS M) Q = Q none (hp nS M) := by
  exact eq_retV2 (e := (.return_, 1, 0, 0, 0)) (by with_unfolding_all rfl) rfl (by with_unfolding_all rfl)
-- LarkExchange$Bench comparesRound(II)V (5, (54, None, None))
set_option maxRecDepth 20000 in
theorem b_5_0 {d nS : Nat} {x1 x2 : Int32} {M : am_M} {Q : Option Value → am_H → Prop} : am_Wp d 5 0 [.ref 54, .int x1, .int x2] [] (hp nS M) Q = if (M 54 5) = (-1) then am_Wp d 5 23 [.ref 54, .int x1, .int x2] [] (hp nS M) Q else am_Wp d 5 8 [.ref 54, .int x1, .int x2] [] (hp nS M) Q := by
  refine (eq_run 3 (q := (5, [.ref 54, .int x1, .int x2], [.int (-1), .int (M 54 5)], hp nS M)) (by with_unfolding_all rfl)).trans ?_
  exact eq_cmp_eq (by with_unfolding_all rfl)
set_option maxRecDepth 20000 in
theorem b_5_8 {d nS : Nat} {x1 x2 : Int32} {M : am_M} {Q : Option Value → am_H → Prop} : am_Wp d 5 8 [.ref 54, .int x1, .int x2] [] (hp nS M) Q = if (x1 * (M 54 6)) ≤ ((M 54 5) * x2) then am_Wp d 5 33 [.ref 54, .int x1, .int x2] [] (hp nS M) Q else am_Wp d 5 23 [.ref 54, .int x1, .int x2] [] (hp nS M) Q := by
  refine (eq_run 8 (q := (20, [.ref 54, .int x1, .int x2], [.int ((M 54 5) * x2), .int (x1 * (M 54 6))], hp nS M)) (by with_unfolding_all rfl)).trans ?_
  exact eq_cmp_le (by with_unfolding_all rfl)
set_option maxRecDepth 20000 in
theorem b_5_23 {d nS : Nat} {x1 x2 : Int32} {M : am_M} {Q : Option Value → am_H → Prop} : am_Wp d 5 23 [.ref 54, .int x1, .int x2] [] (hp nS M) Q = am_Wp d 5 33 [.ref 54, .int x1, .int x2] [] (hp nS (am_up (am_up M 54 5 x1) 54 6 x2)) Q := by
  exact eq_run 6 (q := (33, [.ref 54, .int x1, .int x2], [], hp nS (am_up (am_up M 54 5 x1) 54 6 x2))) (by with_unfolding_all rfl)
set_option maxRecDepth 20000 in
theorem b_5_33 {d nS : Nat} {x1 x2 : Int32} {M : am_M} {Q : Option Value → am_H → Prop} : am_Wp d 5 33 [.ref 54, .int x1, .int x2] [] (hp nS M) Q = Q none (hp nS M) := by
  exact eq_retV2 (e := (.return_, 1, 0, 0, 0)) (by with_unfolding_all rfl) rfl (by with_unfolding_all rfl)
-- LarkExchange$Bench takes(II)I (6, (54, None, None))
set_option maxRecDepth 20000 in
theorem b_6_0 {d nS : Nat} {x1 x2 : Int32} {M : am_M} {Q : Option Value → am_H → Prop} : am_Wp d 6 0 [.ref 54, .int x1, .int x2] [] (hp nS M) Q = if ¬ x1 = (-1) then am_Wp d 6 12 [.ref 54, .int x1, .int x2] [] (hp nS M) Q else am_Wp d 6 5 [.ref 54, .int x1, .int x2] [] (hp nS M) Q := by
  refine (eq_run 2 (q := (2, [.ref 54, .int x1, .int x2], [.int (-1), .int x1], hp nS M)) (by with_unfolding_all rfl)).trans ?_
  exact eq_cmp_ne (by with_unfolding_all rfl)
set_option maxRecDepth 20000 in
theorem b_6_5 {d nS : Nat} {x1 x2 : Int32} {M : am_M} {Q : Option Value → am_H → Prop} : am_Wp d 6 5 [.ref 54, .int x1, .int x2] [] (hp nS M) Q = Q (some (.int 0)) (hp nS (am_up M 54 3 0)) := by
  refine (eq_run 4 (q := (11, [.ref 54, .int x1, .int x2], [.int 0], hp nS (am_up M 54 3 0))) (by with_unfolding_all rfl)).trans ?_
  exact eq_retI2 (e := (.ireturn, 1, 0, 0, 0)) (t := .int) (by with_unfolding_all rfl) rfl (by with_unfolding_all rfl) rfl
set_option maxRecDepth 20000 in
theorem b_6_12 {d nS : Nat} {x1 x2 : Int32} {M : am_M} {Q : Option Value → am_H → Prop} : am_Wp (d + 1) 6 12 [.ref 54, .int x1, .int x2] [] (hp nS M) Q = am_Wp d 125 0 [.int x1, .int 1, .int 30] [] (hp nS M) (fun v h1 => am_Wp (d + 1) 6 19 [.ref 54, .int x1, .int x2] (am_ans v []) h1 Q) := by
  refine (eq_run 3 (q := (16, [.ref 54, .int x1, .int x2], [.int 30, .int 1, .int x1], hp nS M)) (by with_unfolding_all rfl)).trans ?_
  exact eq_call2 (e := (.invokestatic 32, 3, 3, 125, 69)) (as := [.int x1, .int 1, .int 30]) (r := []) (n := 3) (m := 3) (by with_unfolding_all rfl) rfl (by decide) (by with_unfolding_all rfl) (by decide) (by with_unfolding_all rfl) ⟨fun z => absurd z (by decide), fun z => by simp at z⟩
set_option maxRecDepth 20000 in
theorem b_6_19 {d nS : Nat} {x1 x2 s0 : Int32} {M : am_M} {Q : Option Value → am_H → Prop} : am_Wp d 6 19 [.ref 54, .int x1, .int x2] [.int s0] (hp nS M) Q = if ¬ s0 = 0 then am_Wp d 6 41 [.ref 54, .int x1, .int x2] [] (hp nS M) Q else am_Wp d 6 22 [.ref 54, .int x1, .int x2] [] (hp nS M) Q := by
  exact eq_if_ne (by with_unfolding_all rfl)
set_option maxRecDepth 20000 in
theorem b_6_22 {d nS : Nat} {x1 x2 : Int32} {M : am_M} {Q : Option Value → am_H → Prop} : am_Wp (d + 1) 6 22 [.ref 54, .int x1, .int x2] [] (hp nS M) Q = am_Wp d 125 0 [.int x2, .int 1, .int 99] [] (hp nS M) (fun v h1 => am_Wp (d + 1) 6 29 [.ref 54, .int x1, .int x2] (am_ans v []) h1 Q) := by
  refine (eq_run 3 (q := (26, [.ref 54, .int x1, .int x2], [.int 99, .int 1, .int x2], hp nS M)) (by with_unfolding_all rfl)).trans ?_
  exact eq_call2 (e := (.invokestatic 32, 3, 3, 125, 69)) (as := [.int x2, .int 1, .int 99]) (r := []) (n := 3) (m := 3) (by with_unfolding_all rfl) rfl (by decide) (by with_unfolding_all rfl) (by decide) (by with_unfolding_all rfl) ⟨fun z => absurd z (by decide), fun z => by simp at z⟩
set_option maxRecDepth 20000 in
theorem b_6_29 {d nS : Nat} {x1 x2 s0 : Int32} {M : am_M} {Q : Option Value → am_H → Prop} : am_Wp d 6 29 [.ref 54, .int x1, .int x2] [.int s0] (hp nS M) Q = if ¬ s0 = 0 then am_Wp d 6 41 [.ref 54, .int x1, .int x2] [] (hp nS M) Q else am_Wp d 6 32 [.ref 54, .int x1, .int x2] [] (hp nS M) Q := by
  exact eq_if_ne (by with_unfolding_all rfl)
set_option maxRecDepth 20000 in
theorem b_6_32 {d nS : Nat} {x1 x2 : Int32} {M : am_M} {Q : Option Value → am_H → Prop} : am_Wp d 6 32 [.ref 54, .int x1, .int x2] [] (hp nS M) Q = if (M 54 3) < 8 then am_Wp d 6 43 [.ref 54, .int x1, .int x2] [] (hp nS M) Q else am_Wp d 6 41 [.ref 54, .int x1, .int x2] [] (hp nS M) Q := by
  refine (eq_run 3 (q := (38, [.ref 54, .int x1, .int x2], [.int 8, .int (M 54 3)], hp nS M)) (by with_unfolding_all rfl)).trans ?_
  exact eq_cmp_lt (by with_unfolding_all rfl)
set_option maxRecDepth 20000 in
theorem b_6_41 {d nS : Nat} {x1 x2 : Int32} {M : am_M} {Q : Option Value → am_H → Prop} : am_Wp d 6 41 [.ref 54, .int x1, .int x2] [] (hp nS M) Q = Q (some (.int (-1))) (hp nS M) := by
  refine (eq_run 1 (q := (42, [.ref 54, .int x1, .int x2], [.int (-1)], hp nS M)) (by with_unfolding_all rfl)).trans ?_
  exact eq_retI2 (e := (.ireturn, 1, 0, 0, 0)) (t := .int) (by with_unfolding_all rfl) rfl (by with_unfolding_all rfl) rfl
set_option maxRecDepth 20000 in
theorem b_6_43 {d nS : Nat} {x1 x2 : Int32} {M : am_M} {Q : Option Value → am_H → Prop} (h1 : vp_in (M 54 3) 8) (h2 : vp_in ((am_up M 56 (M 54 3).toNatClampNeg x1) 54 3) 8) : am_Wp d 6 43 [.ref 54, .int x1, .int x2] [] (hp nS M) Q = Q (some (.int ((am_up (am_up (am_up M 56 (M 54 3).toNatClampNeg x1) 57 ((am_up M 56 (M 54 3).toNatClampNeg x1) 54 3).toNatClampNeg x2) 54 3 (((am_up (am_up M 56 (M 54 3).toNatClampNeg x1) 57 ((am_up M 56 (M 54 3).toNatClampNeg x1) 54 3).toNatClampNeg x2) 54 3) + 1)) 54 3))) (hp nS (am_up (am_up (am_up M 56 (M 54 3).toNatClampNeg x1) 57 ((am_up M 56 (M 54 3).toNatClampNeg x1) 54 3).toNatClampNeg x2) 54 3 (((am_up (am_up M 56 (M 54 3).toNatClampNeg x1) 57 ((am_up M 56 (M 54 3).toNatClampNeg x1) 54 3).toNatClampNeg x2) 54 3) + 1))) := by
  refine (eq_run 5 (q := (52, [.ref 54, .int x1, .int x2], [.int x1, .int (M 54 3), .ref 56], hp nS M)) (by with_unfolding_all rfl)).trans ?_
  refine (eq_ast (e := (.iastore, 1, 0, 0, 0)) (by with_unfolding_all rfl) rfl (n := 8) (by with_unfolding_all rfl) (by decide) h1).trans ?_
  refine (eq_run 5 (q := (62, [.ref 54, .int x1, .int x2], [.int x2, .int ((am_up M 56 (M 54 3).toNatClampNeg x1) 54 3), .ref 57], hp nS (am_up M 56 (M 54 3).toNatClampNeg x1))) (by with_unfolding_all rfl)).trans ?_
  refine (eq_ast (e := (.iastore, 1, 0, 0, 0)) (by with_unfolding_all rfl) rfl (n := 8) (by with_unfolding_all rfl) (by decide) h2).trans ?_
  refine (eq_run 8 (q := (77, [.ref 54, .int x1, .int x2], [.int ((am_up (am_up (am_up M 56 (M 54 3).toNatClampNeg x1) 57 ((am_up M 56 (M 54 3).toNatClampNeg x1) 54 3).toNatClampNeg x2) 54 3 (((am_up (am_up M 56 (M 54 3).toNatClampNeg x1) 57 ((am_up M 56 (M 54 3).toNatClampNeg x1) 54 3).toNatClampNeg x2) 54 3) + 1)) 54 3)], hp nS (am_up (am_up (am_up M 56 (M 54 3).toNatClampNeg x1) 57 ((am_up M 56 (M 54 3).toNatClampNeg x1) 54 3).toNatClampNeg x2) 54 3 (((am_up (am_up M 56 (M 54 3).toNatClampNeg x1) 57 ((am_up M 56 (M 54 3).toNatClampNeg x1) 54 3).toNatClampNeg x2) 54 3) + 1)))) (by with_unfolding_all rfl)).trans ?_
  exact eq_retI2 (e := (.ireturn, 1, 0, 0, 0)) (t := .int) (by with_unfolding_all rfl) rfl (by with_unfolding_all rfl) rfl
-- LarkExchange$Bench fits(II)I (7, (54, None, None))
set_option maxRecDepth 20000 in
theorem b_7_0 {d nS : Nat} {x1 x2 : Int32} {M : am_M} {Q : Option Value → am_H → Prop} : am_Wp (d + 1) 7 0 [.ref 54, .int x1, .int x2, .retAddr 0, .retAddr 0, .retAddr 0, .retAddr 0, .retAddr 0, .retAddr 0] [] (hp nS M) Q = am_Wp d 8 0 [.ref 54, .retAddr 0, .retAddr 0] [] (hp nS M) (fun v h1 => am_Wp (d + 1) 7 4 [.ref 54, .int x1, .int x2, .retAddr 0, .retAddr 0, .retAddr 0, .retAddr 0, .retAddr 0, .retAddr 0] (am_ans v []) h1 Q) := by
  refine (eq_run 1 (q := (1, [.ref 54, .int x1, .int x2, .retAddr 0, .retAddr 0, .retAddr 0, .retAddr 0, .retAddr 0, .retAddr 0], [.ref 54], hp nS M)) (by with_unfolding_all rfl)).trans ?_
  exact eq_call2 (e := (.invokevirtual 58, 3, 0, 8, 74)) (as := [.ref 54]) (r := []) (n := 1) (m := 3) (by with_unfolding_all rfl) rfl (by decide) (by with_unfolding_all rfl) (by decide) (by with_unfolding_all rfl) ⟨fun _ => am_rec_ok (c := 3) (by with_unfolding_all rfl) (by decide +kernel), fun z => by simp at z⟩
set_option maxRecDepth 20000 in
theorem b_7_4 {d nS : Nat} {x1 x2 : Int32} {M : am_M} {Q : Option Value → am_H → Prop} : am_Wp d 7 4 [.ref 54, .int x1, .int x2, .retAddr 0, .retAddr 0, .retAddr 0, .retAddr 0, .retAddr 0, .retAddr 0] [] (hp nS M) Q = am_Wp d 7 12 [.ref 54, .int x1, .int x2, .int x1, .int 0, .int 0, .retAddr 0, .retAddr 0, .retAddr 0] [] (hp nS M) Q := by
  exact eq_run 6 (q := (12, [.ref 54, .int x1, .int x2, .int x1, .int 0, .int 0, .retAddr 0, .retAddr 0, .retAddr 0], [], hp nS M)) (by with_unfolding_all rfl)
set_option maxRecDepth 20000 in
theorem b_7_12 {d nS : Nat} {x1 x2 x3 x4 x5 : Int32} {M : am_M} {Q : Option Value → am_H → Prop} : am_Wp d 7 12 [.ref 54, .int x1, .int x2, .int x3, .int x4, .int x5, .retAddr 0, .retAddr 0, .retAddr 0] [] (hp nS M) Q = if (M 54 3) ≤ x5 then am_Wp d 7 75 [.ref 54, .int x1, .int x2, .int x3, .int x4, .int x5, .retAddr 0, .retAddr 0, .retAddr 0] [] (hp nS M) Q else am_Wp d 7 21 [.ref 54, .int x1, .int x2, .int x3, .int x4, .int x5, .retAddr 0, .retAddr 0, .retAddr 0] [] (hp nS M) Q := by
  refine (eq_run 3 (q := (18, [.ref 54, .int x1, .int x2, .int x3, .int x4, .int x5, .retAddr 0, .retAddr 0, .retAddr 0], [.int (M 54 3), .int x5], hp nS M)) (by with_unfolding_all rfl)).trans ?_
  exact eq_cmp_ge (by with_unfolding_all rfl)
set_option maxRecDepth 20000 in
theorem b_7_21 {d nS : Nat} {x1 x2 x3 x4 x5 : Int32} {M : am_M} {Q : Option Value → am_H → Prop} (h1 : vp_in x5 8) (h2 : vp_in (M 58 x5.toNatClampNeg) 8) : am_Wp d 7 21 [.ref 54, .int x1, .int x2, .int x3, .int x4, .int x5, .retAddr 0, .retAddr 0, .retAddr 0] [] (hp nS M) Q = if x3 < (M 56 (M 58 x5.toNatClampNeg).toNatClampNeg) then am_Wp d 7 75 [.ref 54, .int x1, .int x2, .int x3, .int x4, .int x5, .retAddr 0, .retAddr 0, .retAddr 0] [] (hp nS M) Q else am_Wp d 7 37 [.ref 54, .int x1, .int x2, .int x3, .int x4, .int x5, .retAddr 0, .retAddr 0, .retAddr 0] [] (hp nS M) Q := by
  refine (eq_run 5 (q := (31, [.ref 54, .int x1, .int x2, .int x3, .int x4, .int x5, .retAddr 0, .retAddr 0, .retAddr 0], [.int x5, .ref 58, .ref 56], hp nS M)) (by with_unfolding_all rfl)).trans ?_
  refine (eq_ald (e := (.iaload, 1, 0, 0, 0)) (by with_unfolding_all rfl) rfl (n := 8) (by with_unfolding_all rfl) h1).trans ?_
  refine (eq_ald (e := (.iaload, 1, 0, 0, 0)) (by with_unfolding_all rfl) rfl (n := 8) (by with_unfolding_all rfl) h2).trans ?_
  refine (eq_run 1 (q := (34, [.ref 54, .int x1, .int x2, .int x3, .int x4, .int x5, .retAddr 0, .retAddr 0, .retAddr 0], [.int x3, .int (M 56 (M 58 x5.toNatClampNeg).toNatClampNeg)], hp nS M)) (by with_unfolding_all rfl)).trans ?_
  exact eq_cmp_gt (by with_unfolding_all rfl)
set_option maxRecDepth 20000 in
theorem b_7_37 {d nS : Nat} {x1 x2 x3 x4 x5 : Int32} {M : am_M} {Q : Option Value → am_H → Prop} (h1 : vp_in x5 8) (h2 : vp_in (M 58 x5.toNatClampNeg) 8) (h3 : vp_in x5 8) (h4 : vp_in (M 58 x5.toNatClampNeg) 8) : am_Wp d 7 37 [.ref 54, .int x1, .int x2, .int x3, .int x4, .int x5, .retAddr 0, .retAddr 0, .retAddr 0] [] (hp nS M) Q = am_Wp d 7 12 [.ref 54, .int x1, .int x2, .int (x3 - (M 56 (M 58 x5.toNatClampNeg).toNatClampNeg)), .int (x4 + (M 57 (M 58 x5.toNatClampNeg).toNatClampNeg)), .int (x5 + 1), .retAddr 0, .retAddr 0, .retAddr 0] [] (hp nS M) Q := by
  refine (eq_run 6 (q := (48, [.ref 54, .int x1, .int x2, .int x3, .int x4, .int x5, .retAddr 0, .retAddr 0, .retAddr 0], [.int x5, .ref 58, .ref 56, .int x3], hp nS M)) (by with_unfolding_all rfl)).trans ?_
  refine (eq_ald (e := (.iaload, 1, 0, 0, 0)) (by with_unfolding_all rfl) rfl (n := 8) (by with_unfolding_all rfl) h1).trans ?_
  refine (eq_ald (e := (.iaload, 1, 0, 0, 0)) (by with_unfolding_all rfl) rfl (n := 8) (by with_unfolding_all rfl) h2).trans ?_
  refine (eq_run 8 (q := (64, [.ref 54, .int x1, .int x2, .int (x3 - (M 56 (M 58 x5.toNatClampNeg).toNatClampNeg)), .int x4, .int x5, .retAddr 0, .retAddr 0, .retAddr 0], [.int x5, .ref 58, .ref 57, .int x4], hp nS M)) (by with_unfolding_all rfl)).trans ?_
  refine (eq_ald (e := (.iaload, 1, 0, 0, 0)) (by with_unfolding_all rfl) rfl (n := 8) (by with_unfolding_all rfl) h3).trans ?_
  refine (eq_ald (e := (.iaload, 1, 0, 0, 0)) (by with_unfolding_all rfl) rfl (n := 8) (by with_unfolding_all rfl) h4).trans ?_
  exact eq_run 4 (q := (12, [.ref 54, .int x1, .int x2, .int (x3 - (M 56 (M 58 x5.toNatClampNeg).toNatClampNeg)), .int (x4 + (M 57 (M 58 x5.toNatClampNeg).toNatClampNeg)), .int (x5 + 1), .retAddr 0, .retAddr 0, .retAddr 0], [], hp nS M)) (by with_unfolding_all rfl)
set_option maxRecDepth 20000 in
theorem b_7_75 {d nS : Nat} {x1 x2 x3 x4 x5 : Int32} {M : am_M} {Q : Option Value → am_H → Prop} : am_Wp d 7 75 [.ref 54, .int x1, .int x2, .int x3, .int x4, .int x5, .retAddr 0, .retAddr 0, .retAddr 0] [] (hp nS M) Q = if ¬ x2 = 2 then am_Wp d 7 83 [.ref 54, .int x1, .int x2, .int x3, .int x4, .int x5, .retAddr 0, .retAddr 0, .retAddr 0] [] (hp nS M) Q else am_Wp d 7 80 [.ref 54, .int x1, .int x2, .int x3, .int x4, .int x5, .retAddr 0, .retAddr 0, .retAddr 0] [] (hp nS M) Q := by
  refine (eq_run 2 (q := (77, [.ref 54, .int x1, .int x2, .int x3, .int x4, .int x5, .retAddr 0, .retAddr 0, .retAddr 0], [.int 2, .int x2], hp nS M)) (by with_unfolding_all rfl)).trans ?_
  exact eq_cmp_ne (by with_unfolding_all rfl)
set_option maxRecDepth 20000 in
theorem b_7_80 {d nS : Nat} {x1 x2 x3 x4 x5 : Int32} {M : am_M} {Q : Option Value → am_H → Prop} : am_Wp d 7 80 [.ref 54, .int x1, .int x2, .int x3, .int x4, .int x5, .retAddr 0, .retAddr 0, .retAddr 0] [] (hp nS M) Q = Q (some (.int x5)) (hp nS M) := by
  refine (eq_run 1 (q := (82, [.ref 54, .int x1, .int x2, .int x3, .int x4, .int x5, .retAddr 0, .retAddr 0, .retAddr 0], [.int x5], hp nS M)) (by with_unfolding_all rfl)).trans ?_
  exact eq_retI2 (e := (.ireturn, 1, 0, 0, 0)) (t := .int) (by with_unfolding_all rfl) rfl (by with_unfolding_all rfl) rfl
set_option maxRecDepth 20000 in
theorem b_7_83 {d nS : Nat} {x1 x2 x3 x4 x5 : Int32} {M : am_M} {Q : Option Value → am_H → Prop} : am_Wp d 7 83 [.ref 54, .int x1, .int x2, .int x3, .int x4, .int x5, .retAddr 0, .retAddr 0, .retAddr 0] [] (hp nS M) Q = if (M 54 3) ≤ x5 then am_Wp d 7 107 [.ref 54, .int x1, .int x2, .int x3, .int x4, .int x5, .retAddr 0, .retAddr 0, .retAddr 0] [] (hp nS M) Q else am_Wp d 7 92 [.ref 54, .int x1, .int x2, .int x3, .int x4, .int x5, .retAddr 0, .retAddr 0, .retAddr 0] [] (hp nS M) Q := by
  refine (eq_run 3 (q := (89, [.ref 54, .int x1, .int x2, .int x3, .int x4, .int x5, .retAddr 0, .retAddr 0, .retAddr 0], [.int (M 54 3), .int x5], hp nS M)) (by with_unfolding_all rfl)).trans ?_
  exact eq_cmp_ge (by with_unfolding_all rfl)
set_option maxRecDepth 20000 in
theorem b_7_92 {d nS : Nat} {x1 x2 x3 x4 x5 : Int32} {M : am_M} {Q : Option Value → am_H → Prop} (h1 : vp_in x5 8) (h2 : vp_in (M 58 x5.toNatClampNeg) 8) : am_Wp d 7 92 [.ref 54, .int x1, .int x2, .int x3, .int x4, .int x5, .retAddr 0, .retAddr 0, .retAddr 0] [] (hp nS M) Q = am_Wp d 7 108 [.ref 54, .int x1, .int x2, .int x3, .int x4, .int x5, .retAddr 0, .retAddr 0, .retAddr 0] [.int (M 56 (M 58 x5.toNatClampNeg).toNatClampNeg)] (hp nS M) Q := by
  refine (eq_run 5 (q := (102, [.ref 54, .int x1, .int x2, .int x3, .int x4, .int x5, .retAddr 0, .retAddr 0, .retAddr 0], [.int x5, .ref 58, .ref 56], hp nS M)) (by with_unfolding_all rfl)).trans ?_
  refine (eq_ald (e := (.iaload, 1, 0, 0, 0)) (by with_unfolding_all rfl) rfl (n := 8) (by with_unfolding_all rfl) h1).trans ?_
  refine (eq_ald (e := (.iaload, 1, 0, 0, 0)) (by with_unfolding_all rfl) rfl (n := 8) (by with_unfolding_all rfl) h2).trans ?_
  exact eq_run 1 (q := (108, [.ref 54, .int x1, .int x2, .int x3, .int x4, .int x5, .retAddr 0, .retAddr 0, .retAddr 0], [.int (M 56 (M 58 x5.toNatClampNeg).toNatClampNeg)], hp nS M)) (by with_unfolding_all rfl)
set_option maxRecDepth 20000 in
theorem b_7_107 {d nS : Nat} {x1 x2 x3 x4 x5 : Int32} {M : am_M} {Q : Option Value → am_H → Prop} : am_Wp d 7 107 [.ref 54, .int x1, .int x2, .int x3, .int x4, .int x5, .retAddr 0, .retAddr 0, .retAddr 0] [] (hp nS M) Q = am_Wp d 7 108 [.ref 54, .int x1, .int x2, .int x3, .int x4, .int x5, .retAddr 0, .retAddr 0, .retAddr 0] [.int 1] (hp nS M) Q := by
  exact eq_run 1 (q := (108, [.ref 54, .int x1, .int x2, .int x3, .int x4, .int x5, .retAddr 0, .retAddr 0, .retAddr 0], [.int 1], hp nS M)) (by with_unfolding_all rfl)
set_option maxRecDepth 20000 in
theorem b_7_108 {d nS : Nat} {x1 x2 x3 x4 x5 s0 : Int32} {M : am_M} {Q : Option Value → am_H → Prop} : am_Wp d 7 108 [.ref 54, .int x1, .int x2, .int x3, .int x4, .int x5, .retAddr 0, .retAddr 0, .retAddr 0] [.int s0] (hp nS M) Q = if (M 54 3) ≤ x5 then am_Wp d 7 142 [.ref 54, .int x1, .int x2, .int x3, .int x4, .int x5, .int s0, .retAddr 0, .retAddr 0] [] (hp nS M) Q else am_Wp d 7 119 [.ref 54, .int x1, .int x2, .int x3, .int x4, .int x5, .int s0, .retAddr 0, .retAddr 0] [] (hp nS M) Q := by
  refine (eq_run 4 (q := (116, [.ref 54, .int x1, .int x2, .int x3, .int x4, .int x5, .int s0, .retAddr 0, .retAddr 0], [.int (M 54 3), .int x5], hp nS M)) (by with_unfolding_all rfl)).trans ?_
  exact eq_cmp_ge (by with_unfolding_all rfl)
set_option maxRecDepth 20000 in
theorem b_7_119 {d nS : Nat} {x1 x2 x3 x4 x5 x6 : Int32} {M : am_M} {Q : Option Value → am_H → Prop} (h1 : vp_in x5 8) (h2 : vp_in (M 58 x5.toNatClampNeg) 8) : am_Wp d 7 119 [.ref 54, .int x1, .int x2, .int x3, .int x4, .int x5, .int x6, .retAddr 0, .retAddr 0] [] (hp nS M) Q = am_Wp d 7 144 [.ref 54, .int x1, .int x2, .int x3, .int x4, .int x5, .int x6, .retAddr 0, .retAddr 0] [.int ((x4 * x6) + ((M 57 (M 58 x5.toNatClampNeg).toNatClampNeg) * x3))] (hp nS M) Q := by
  refine (eq_run 8 (q := (134, [.ref 54, .int x1, .int x2, .int x3, .int x4, .int x5, .int x6, .retAddr 0, .retAddr 0], [.int x5, .ref 58, .ref 57, .int (x4 * x6)], hp nS M)) (by with_unfolding_all rfl)).trans ?_
  refine (eq_ald (e := (.iaload, 1, 0, 0, 0)) (by with_unfolding_all rfl) rfl (n := 8) (by with_unfolding_all rfl) h1).trans ?_
  refine (eq_ald (e := (.iaload, 1, 0, 0, 0)) (by with_unfolding_all rfl) rfl (n := 8) (by with_unfolding_all rfl) h2).trans ?_
  exact eq_run 4 (q := (144, [.ref 54, .int x1, .int x2, .int x3, .int x4, .int x5, .int x6, .retAddr 0, .retAddr 0], [.int ((x4 * x6) + ((M 57 (M 58 x5.toNatClampNeg).toNatClampNeg) * x3))], hp nS M)) (by with_unfolding_all rfl)
set_option maxRecDepth 20000 in
theorem b_7_142 {d nS : Nat} {x1 x2 x3 x4 x5 x6 : Int32} {M : am_M} {Q : Option Value → am_H → Prop} : am_Wp d 7 142 [.ref 54, .int x1, .int x2, .int x3, .int x4, .int x5, .int x6, .retAddr 0, .retAddr 0] [] (hp nS M) Q = am_Wp d 7 144 [.ref 54, .int x1, .int x2, .int x3, .int x4, .int x5, .int x6, .retAddr 0, .retAddr 0] [.int x4] (hp nS M) Q := by
  exact eq_run 1 (q := (144, [.ref 54, .int x1, .int x2, .int x3, .int x4, .int x5, .int x6, .retAddr 0, .retAddr 0], [.int x4], hp nS M)) (by with_unfolding_all rfl)
set_option maxRecDepth 20000 in
theorem b_7_144 {d nS : Nat} {x1 x2 x3 x4 x5 x6 s0 : Int32} {M : am_M} {Q : Option Value → am_H → Prop} : am_Wp (d + 1) 7 144 [.ref 54, .int x1, .int x2, .int x3, .int x4, .int x5, .int x6, .retAddr 0, .retAddr 0] [.int s0] (hp nS M) Q = am_Wp d 148 0 [.int s0, .int x6, .retAddr 0, .retAddr 0, .retAddr 0, .retAddr 0] [] (hp nS M) (fun v h1 => am_Wp (d + 1) 7 153 [.ref 54, .int x1, .int x2, .int x3, .int x4, .int x5, .int x6, .int s0, .retAddr 0] (am_ans v []) h1 Q) := by
  refine (eq_run 3 (q := (150, [.ref 54, .int x1, .int x2, .int x3, .int x4, .int x5, .int x6, .int s0, .retAddr 0], [.int x6, .int s0], hp nS M)) (by with_unfolding_all rfl)).trans ?_
  exact eq_call2 (e := (.invokestatic 46, 3, 3, 148, 71)) (as := [.int s0, .int x6]) (r := []) (n := 2) (m := 6) (by with_unfolding_all rfl) rfl (by decide) (by with_unfolding_all rfl) (by decide) (by with_unfolding_all rfl) ⟨fun z => absurd z (by decide), fun z => by simp at z⟩
set_option maxRecDepth 20000 in
theorem b_7_153 {d nS : Nat} {x1 x2 x3 x4 x5 x6 x7 s0 : Int32} {M : am_M} {Q : Option Value → am_H → Prop} : am_Wp d 7 153 [.ref 54, .int x1, .int x2, .int x3, .int x4, .int x5, .int x6, .int x7, .retAddr 0] [.int s0] (hp nS M) Q = if ¬ x2 = 0 then am_Wp d 7 167 [.ref 54, .int x1, .int x2, .int x3, .int x4, .int x5, .int x6, .int x7, .int s0] [] (hp nS M) Q else am_Wp d 7 159 [.ref 54, .int x1, .int x2, .int x3, .int x4, .int x5, .int x6, .int x7, .int s0] [] (hp nS M) Q := by
  refine (eq_run 2 (q := (156, [.ref 54, .int x1, .int x2, .int x3, .int x4, .int x5, .int x6, .int x7, .int s0], [.int x2], hp nS M)) (by with_unfolding_all rfl)).trans ?_
  exact eq_if_ne (by with_unfolding_all rfl)
set_option maxRecDepth 20000 in
theorem b_7_159 {d nS : Nat} {x1 x2 x3 x4 x5 x6 x7 x8 : Int32} {M : am_M} {Q : Option Value → am_H → Prop} (h1 : ¬ x8 = 0) : am_Wp d 7 159 [.ref 54, .int x1, .int x2, .int x3, .int x4, .int x5, .int x6, .int x7, .int x8] [] (hp nS M) Q = am_Wp d 7 172 [.ref 54, .int x1, .int x2, .int x3, .int x4, .int x5, .int x6, .int x7, .int x8] [.int (x7 / x8)] (hp nS M) Q := by
  refine (eq_run 2 (q := (163, [.ref 54, .int x1, .int x2, .int x3, .int x4, .int x5, .int x6, .int x7, .int x8], [.int x8, .int x7], hp nS M)) (by with_unfolding_all rfl)).trans ?_
  refine (eq_div (e := (.idiv, 1, 0, 0, 0)) (by with_unfolding_all rfl) rfl h1).trans ?_
  exact eq_run 1 (q := (172, [.ref 54, .int x1, .int x2, .int x3, .int x4, .int x5, .int x6, .int x7, .int x8], [.int (x7 / x8)], hp nS M)) (by with_unfolding_all rfl)
set_option maxRecDepth 20000 in
theorem b_7_167 {d nS : Nat} {x1 x2 x3 x4 x5 x6 x7 x8 : Int32} {M : am_M} {Q : Option Value → am_H → Prop} (h1 : ¬ x8 = 0) : am_Wp d 7 167 [.ref 54, .int x1, .int x2, .int x3, .int x4, .int x5, .int x6, .int x7, .int x8] [] (hp nS M) Q = am_Wp d 7 172 [.ref 54, .int x1, .int x2, .int x3, .int x4, .int x5, .int x6, .int x7, .int x8] [.int (x6 / x8)] (hp nS M) Q := by
  refine (eq_run 2 (q := (171, [.ref 54, .int x1, .int x2, .int x3, .int x4, .int x5, .int x6, .int x7, .int x8], [.int x8, .int x6], hp nS M)) (by with_unfolding_all rfl)).trans ?_
  exact eq_div (e := (.idiv, 1, 0, 0, 0)) (by with_unfolding_all rfl) rfl h1
set_option maxRecDepth 20000 in
theorem b_7_172 {d nS : Nat} {x1 x2 x3 x4 x5 x6 x7 x8 s0 : Int32} {M : am_M} {Q : Option Value → am_H → Prop} : am_Wp d 7 172 [.ref 54, .int x1, .int x2, .int x3, .int x4, .int x5, .int x6, .int x7, .int x8] [.int s0] (hp nS M) Q = Q (some (.int s0)) (hp nS M) := by
  exact eq_retI2 (e := (.ireturn, 1, 0, 0, 0)) (t := .int) (by with_unfolding_all rfl) rfl (by with_unfolding_all rfl) rfl
-- LarkExchange$Bench sorts()V (8, (54,))
set_option maxRecDepth 20000 in
theorem b_8_0 {d nS : Nat} {M : am_M} {Q : Option Value → am_H → Prop} : am_Wp d 8 0 [.ref 54, .retAddr 0, .retAddr 0] [] (hp nS M) Q = am_Wp d 8 2 [.ref 54, .int 0, .retAddr 0] [] (hp nS M) Q := by
  exact eq_run 2 (q := (2, [.ref 54, .int 0, .retAddr 0], [], hp nS M)) (by with_unfolding_all rfl)
set_option maxRecDepth 20000 in
theorem b_8_2 {d nS : Nat} {x1 : Int32} {zx2 : Value} {M : am_M} {Q : Option Value → am_H → Prop} : am_Wp d 8 2 [.ref 54, .int x1, zx2] [] (hp nS M) Q = if (M 54 3) ≤ x1 then am_Wp d 8 65 [.ref 54, .int x1, zx2] [] (hp nS M) Q else am_Wp d 8 10 [.ref 54, .int x1, zx2] [] (hp nS M) Q := by
  refine (eq_run 3 (q := (7, [.ref 54, .int x1, zx2], [.int (M 54 3), .int x1], hp nS M)) (by with_unfolding_all rfl)).trans ?_
  exact eq_cmp_ge (by with_unfolding_all rfl)
set_option maxRecDepth 20000 in
theorem b_8_10 {d nS : Nat} {x1 : Int32} {zx2 : Value} {M : am_M} {Q : Option Value → am_H → Prop} : am_Wp d 8 10 [.ref 54, .int x1, zx2] [] (hp nS M) Q = am_Wp d 8 12 [.ref 54, .int x1, .int x1] [] (hp nS M) Q := by
  exact eq_run 2 (q := (12, [.ref 54, .int x1, .int x1], [], hp nS M)) (by with_unfolding_all rfl)
set_option maxRecDepth 20000 in
theorem b_8_12 {d nS : Nat} {x1 x2 : Int32} {M : am_M} {Q : Option Value → am_H → Prop} : am_Wp d 8 12 [.ref 54, .int x1, .int x2] [] (hp nS M) Q = if x2 ≤ 0 then am_Wp d 8 52 [.ref 54, .int x1, .int x2] [] (hp nS M) Q else am_Wp d 8 16 [.ref 54, .int x1, .int x2] [] (hp nS M) Q := by
  refine (eq_run 1 (q := (13, [.ref 54, .int x1, .int x2], [.int x2], hp nS M)) (by with_unfolding_all rfl)).trans ?_
  exact eq_if_le (by with_unfolding_all rfl)
set_option maxRecDepth 20000 in
theorem b_8_16 {d nS : Nat} {x1 x2 : Int32} {M : am_M} {Q : Option Value → am_H → Prop} (h1 : vp_in (x2 - 1) 8) : am_Wp (d + 1) 8 16 [.ref 54, .int x1, .int x2] [] (hp nS M) Q = am_Wp d 9 0 [.ref 54, .int x1, .int (M 58 (x2 - 1).toNatClampNeg)] [] (hp nS M) (fun v h1 => am_Wp (d + 1) 8 29 [.ref 54, .int x1, .int x2] (am_ans v []) h1 Q) := by
  refine (eq_run 7 (q := (25, [.ref 54, .int x1, .int x2], [.int (x2 - 1), .ref 58, .int x1, .ref 54], hp nS M)) (by with_unfolding_all rfl)).trans ?_
  refine (eq_ald (e := (.iaload, 1, 0, 0, 0)) (by with_unfolding_all rfl) rfl (n := 8) (by with_unfolding_all rfl) h1).trans ?_
  exact eq_call2 (e := (.invokevirtual 54, 3, 0, 9, 73)) (as := [.ref 54, .int x1, .int (M 58 (x2 - 1).toNatClampNeg)]) (r := []) (n := 3) (m := 3) (by with_unfolding_all rfl) rfl (by decide) (by with_unfolding_all rfl) (by decide) (by with_unfolding_all rfl) ⟨fun _ => am_rec_ok (c := 3) (by with_unfolding_all rfl) (by decide +kernel), fun z => by simp at z⟩
set_option maxRecDepth 20000 in
theorem b_8_29 {d nS : Nat} {x1 x2 s0 : Int32} {M : am_M} {Q : Option Value → am_H → Prop} : am_Wp d 8 29 [.ref 54, .int x1, .int x2] [.int s0] (hp nS M) Q = if s0 = 0 then am_Wp d 8 52 [.ref 54, .int x1, .int x2] [] (hp nS M) Q else am_Wp d 8 32 [.ref 54, .int x1, .int x2] [] (hp nS M) Q := by
  exact eq_if_eq (by with_unfolding_all rfl)
set_option maxRecDepth 20000 in
theorem b_8_32 {d nS : Nat} {x1 x2 : Int32} {M : am_M} {Q : Option Value → am_H → Prop} (h1 : vp_in (x2 - 1) 8) (h2 : vp_in x2 8) : am_Wp d 8 32 [.ref 54, .int x1, .int x2] [] (hp nS M) Q = am_Wp d 8 12 [.ref 54, .int x1, .int (x2 + (-1))] [] (hp nS (am_up M 58 x2.toNatClampNeg (M 58 (x2 - 1).toNatClampNeg))) Q := by
  refine (eq_run 8 (q := (44, [.ref 54, .int x1, .int x2], [.int (x2 - 1), .ref 58, .int x2, .ref 58], hp nS M)) (by with_unfolding_all rfl)).trans ?_
  refine (eq_ald (e := (.iaload, 1, 0, 0, 0)) (by with_unfolding_all rfl) rfl (n := 8) (by with_unfolding_all rfl) h1).trans ?_
  refine (eq_ast (e := (.iastore, 1, 0, 0, 0)) (by with_unfolding_all rfl) rfl (n := 8) (by with_unfolding_all rfl) (by decide) h2).trans ?_
  exact eq_run 2 (q := (12, [.ref 54, .int x1, .int (x2 + (-1))], [], hp nS (am_up M 58 x2.toNatClampNeg (M 58 (x2 - 1).toNatClampNeg)))) (by with_unfolding_all rfl)
set_option maxRecDepth 20000 in
theorem b_8_52 {d nS : Nat} {x1 x2 : Int32} {M : am_M} {Q : Option Value → am_H → Prop} (h1 : vp_in x2 8) : am_Wp d 8 52 [.ref 54, .int x1, .int x2] [] (hp nS M) Q = am_Wp d 8 2 [.ref 54, .int (x1 + 1), .int x2] [] (hp nS (am_up M 58 x2.toNatClampNeg x1)) Q := by
  refine (eq_run 4 (q := (58, [.ref 54, .int x1, .int x2], [.int x1, .int x2, .ref 58], hp nS M)) (by with_unfolding_all rfl)).trans ?_
  refine (eq_ast (e := (.iastore, 1, 0, 0, 0)) (by with_unfolding_all rfl) rfl (n := 8) (by with_unfolding_all rfl) (by decide) h1).trans ?_
  exact eq_run 2 (q := (2, [.ref 54, .int (x1 + 1), .int x2], [], hp nS (am_up M 58 x2.toNatClampNeg x1))) (by with_unfolding_all rfl)
set_option maxRecDepth 20000 in
theorem b_8_65 {d nS : Nat} {x1 : Int32} {zx2 : Value} {M : am_M} {Q : Option Value → am_H → Prop} : am_Wp d 8 65 [.ref 54, .int x1, zx2] [] (hp nS M) Q = Q none (hp nS M) := by
  exact eq_retV2 (e := (.return_, 1, 0, 0, 0)) (by with_unfolding_all rfl) rfl (by with_unfolding_all rfl)
-- LarkExchange$Bench isDearer(II)Z (9, (54, None, None))
set_option maxRecDepth 20000 in
theorem b_9_0 {d nS : Nat} {x1 x2 : Int32} {M : am_M} {Q : Option Value → am_H → Prop} (h1 : vp_in x1 8) (h2 : vp_in x2 8) (h3 : vp_in x2 8) (h4 : vp_in x1 8) : am_Wp d 9 0 [.ref 54, .int x1, .int x2] [] (hp nS M) Q = if ((M 57 x1.toNatClampNeg) * (M 56 x2.toNatClampNeg)) ≤ ((M 57 x2.toNatClampNeg) * (M 56 x1.toNatClampNeg)) then am_Wp d 9 33 [.ref 54, .int x1, .int x2] [] (hp nS M) Q else am_Wp d 9 29 [.ref 54, .int x1, .int x2] [] (hp nS M) Q := by
  refine (eq_run 3 (q := (5, [.ref 54, .int x1, .int x2], [.int x1, .ref 57], hp nS M)) (by with_unfolding_all rfl)).trans ?_
  refine (eq_ald (e := (.iaload, 1, 0, 0, 0)) (by with_unfolding_all rfl) rfl (n := 8) (by with_unfolding_all rfl) h1).trans ?_
  refine (eq_run 3 (q := (11, [.ref 54, .int x1, .int x2], [.int x2, .ref 56, .int (M 57 x1.toNatClampNeg)], hp nS M)) (by with_unfolding_all rfl)).trans ?_
  refine (eq_ald (e := (.iaload, 1, 0, 0, 0)) (by with_unfolding_all rfl) rfl (n := 8) (by with_unfolding_all rfl) h2).trans ?_
  refine (eq_run 4 (q := (18, [.ref 54, .int x1, .int x2], [.int x2, .ref 57, .int ((M 57 x1.toNatClampNeg) * (M 56 x2.toNatClampNeg))], hp nS M)) (by with_unfolding_all rfl)).trans ?_
  refine (eq_ald (e := (.iaload, 1, 0, 0, 0)) (by with_unfolding_all rfl) rfl (n := 8) (by with_unfolding_all rfl) h3).trans ?_
  refine (eq_run 3 (q := (24, [.ref 54, .int x1, .int x2], [.int x1, .ref 56, .int (M 57 x2.toNatClampNeg), .int ((M 57 x1.toNatClampNeg) * (M 56 x2.toNatClampNeg))], hp nS M)) (by with_unfolding_all rfl)).trans ?_
  refine (eq_ald (e := (.iaload, 1, 0, 0, 0)) (by with_unfolding_all rfl) rfl (n := 8) (by with_unfolding_all rfl) h4).trans ?_
  refine (eq_run 1 (q := (26, [.ref 54, .int x1, .int x2], [.int ((M 57 x2.toNatClampNeg) * (M 56 x1.toNatClampNeg)), .int ((M 57 x1.toNatClampNeg) * (M 56 x2.toNatClampNeg))], hp nS M)) (by with_unfolding_all rfl)).trans ?_
  exact eq_cmp_le (by with_unfolding_all rfl)
set_option maxRecDepth 20000 in
theorem b_9_29 {d nS : Nat} {x1 x2 : Int32} {M : am_M} {Q : Option Value → am_H → Prop} : am_Wp d 9 29 [.ref 54, .int x1, .int x2] [] (hp nS M) Q = am_Wp d 9 34 [.ref 54, .int x1, .int x2] [.int 1] (hp nS M) Q := by
  exact eq_run 2 (q := (34, [.ref 54, .int x1, .int x2], [.int 1], hp nS M)) (by with_unfolding_all rfl)
set_option maxRecDepth 20000 in
theorem b_9_33 {d nS : Nat} {x1 x2 : Int32} {M : am_M} {Q : Option Value → am_H → Prop} : am_Wp d 9 33 [.ref 54, .int x1, .int x2] [] (hp nS M) Q = am_Wp d 9 34 [.ref 54, .int x1, .int x2] [.int 0] (hp nS M) Q := by
  exact eq_run 1 (q := (34, [.ref 54, .int x1, .int x2], [.int 0], hp nS M)) (by with_unfolding_all rfl)
set_option maxRecDepth 20000 in
theorem b_9_34 {d nS : Nat} {x1 x2 s0 : Int32} {M : am_M} {Q : Option Value → am_H → Prop} (h1 : am_rok .boolean s0 = true) : am_Wp d 9 34 [.ref 54, .int x1, .int x2] [.int s0] (hp nS M) Q = Q (some (.int s0)) (hp nS M) := by
  exact eq_retI2 (e := (.ireturn, 1, 0, 0, 0)) (t := .boolean) (by with_unfolding_all rfl) rfl (by with_unfolding_all rfl) h1
-- LarkExchange$Bench copyFrom(LLarkExchange$Bench;)V (10, (96, 54))
set_option maxRecDepth 20000 in
theorem b_10_0 {d nS : Nat} {M : am_M} {Q : Option Value → am_H → Prop} : am_Wp (d + 1) 10 0 [.ref 96, .ref 54] [] (hp nS M) Q = am_Wp d 131 0 [.ref 55, .ref 97] [] (hp nS M) (fun v h1 => am_Wp (d + 1) 10 11 [.ref 96, .ref 54] (am_ans v []) h1 Q) := by
  refine (eq_run 4 (q := (8, [.ref 96, .ref 54], [.ref 97, .ref 55], hp nS M)) (by with_unfolding_all rfl)).trans ?_
  exact eq_call2 (e := (.invokestatic 24, 3, 3, 131, 68)) (as := [.ref 55, .ref 97]) (r := []) (n := 2) (m := 2) (by with_unfolding_all rfl) rfl (by decide) (by with_unfolding_all rfl) (by decide) (by with_unfolding_all rfl) ⟨fun z => absurd z (by decide), fun z => by simp at z⟩
set_option maxRecDepth 20000 in
theorem b_10_11 {d nS : Nat} {M : am_M} {Q : Option Value → am_H → Prop} : am_Wp (d + 1) 10 11 [.ref 96, .ref 54] [] (hp nS M) Q = am_Wp d 131 0 [.ref 56, .ref 98] [] (hp nS M) (fun v h1 => am_Wp (d + 1) 10 22 [.ref 96, .ref 54] (am_ans v []) h1 Q) := by
  refine (eq_run 4 (q := (19, [.ref 96, .ref 54], [.ref 98, .ref 56], hp nS M)) (by with_unfolding_all rfl)).trans ?_
  exact eq_call2 (e := (.invokestatic 24, 3, 3, 131, 68)) (as := [.ref 56, .ref 98]) (r := []) (n := 2) (m := 2) (by with_unfolding_all rfl) rfl (by decide) (by with_unfolding_all rfl) (by decide) (by with_unfolding_all rfl) ⟨fun z => absurd z (by decide), fun z => by simp at z⟩
set_option maxRecDepth 20000 in
theorem b_10_22 {d nS : Nat} {M : am_M} {Q : Option Value → am_H → Prop} : am_Wp (d + 1) 10 22 [.ref 96, .ref 54] [] (hp nS M) Q = am_Wp d 131 0 [.ref 57, .ref 99] [] (hp nS M) (fun v h1 => am_Wp (d + 1) 10 33 [.ref 96, .ref 54] (am_ans v []) h1 Q) := by
  refine (eq_run 4 (q := (30, [.ref 96, .ref 54], [.ref 99, .ref 57], hp nS M)) (by with_unfolding_all rfl)).trans ?_
  exact eq_call2 (e := (.invokestatic 24, 3, 3, 131, 68)) (as := [.ref 57, .ref 99]) (r := []) (n := 2) (m := 2) (by with_unfolding_all rfl) rfl (by decide) (by with_unfolding_all rfl) (by decide) (by with_unfolding_all rfl) ⟨fun z => absurd z (by decide), fun z => by simp at z⟩
set_option maxRecDepth 20000 in
theorem b_10_33 {d nS : Nat} {M : am_M} {Q : Option Value → am_H → Prop} : am_Wp d 10 33 [.ref 96, .ref 54] [] (hp nS M) Q = Q none (hp nS (am_up M 96 3 (M 54 3))) := by
  refine (eq_run 4 (q := (41, [.ref 96, .ref 54], [], hp nS (am_up M 96 3 (M 54 3)))) (by with_unfolding_all rfl)).trans ?_
  exact eq_retV2 (e := (.return_, 1, 0, 0, 0)) (by with_unfolding_all rfl) rfl (by with_unfolding_all rfl)
-- LarkExchange$Bench copyFrom(LLarkExchange$Bench;)V (10, (54, 96))
set_option maxRecDepth 20000 in
theorem b_10i1_0 {d nS : Nat} {M : am_M} {Q : Option Value → am_H → Prop} : am_Wp (d + 1) 10 0 [.ref 54, .ref 96] [] (hp nS M) Q = am_Wp d 131 0 [.ref 97, .ref 55] [] (hp nS M) (fun v h1 => am_Wp (d + 1) 10 11 [.ref 54, .ref 96] (am_ans v []) h1 Q) := by
  refine (eq_run 4 (q := (8, [.ref 54, .ref 96], [.ref 55, .ref 97], hp nS M)) (by with_unfolding_all rfl)).trans ?_
  exact eq_call2 (e := (.invokestatic 24, 3, 3, 131, 68)) (as := [.ref 97, .ref 55]) (r := []) (n := 2) (m := 2) (by with_unfolding_all rfl) rfl (by decide) (by with_unfolding_all rfl) (by decide) (by with_unfolding_all rfl) ⟨fun z => absurd z (by decide), fun z => by simp at z⟩
set_option maxRecDepth 20000 in
theorem b_10i1_11 {d nS : Nat} {M : am_M} {Q : Option Value → am_H → Prop} : am_Wp (d + 1) 10 11 [.ref 54, .ref 96] [] (hp nS M) Q = am_Wp d 131 0 [.ref 98, .ref 56] [] (hp nS M) (fun v h1 => am_Wp (d + 1) 10 22 [.ref 54, .ref 96] (am_ans v []) h1 Q) := by
  refine (eq_run 4 (q := (19, [.ref 54, .ref 96], [.ref 56, .ref 98], hp nS M)) (by with_unfolding_all rfl)).trans ?_
  exact eq_call2 (e := (.invokestatic 24, 3, 3, 131, 68)) (as := [.ref 98, .ref 56]) (r := []) (n := 2) (m := 2) (by with_unfolding_all rfl) rfl (by decide) (by with_unfolding_all rfl) (by decide) (by with_unfolding_all rfl) ⟨fun z => absurd z (by decide), fun z => by simp at z⟩
set_option maxRecDepth 20000 in
theorem b_10i1_22 {d nS : Nat} {M : am_M} {Q : Option Value → am_H → Prop} : am_Wp (d + 1) 10 22 [.ref 54, .ref 96] [] (hp nS M) Q = am_Wp d 131 0 [.ref 99, .ref 57] [] (hp nS M) (fun v h1 => am_Wp (d + 1) 10 33 [.ref 54, .ref 96] (am_ans v []) h1 Q) := by
  refine (eq_run 4 (q := (30, [.ref 54, .ref 96], [.ref 57, .ref 99], hp nS M)) (by with_unfolding_all rfl)).trans ?_
  exact eq_call2 (e := (.invokestatic 24, 3, 3, 131, 68)) (as := [.ref 99, .ref 57]) (r := []) (n := 2) (m := 2) (by with_unfolding_all rfl) rfl (by decide) (by with_unfolding_all rfl) (by decide) (by with_unfolding_all rfl) ⟨fun z => absurd z (by decide), fun z => by simp at z⟩
set_option maxRecDepth 20000 in
theorem b_10i1_33 {d nS : Nat} {M : am_M} {Q : Option Value → am_H → Prop} : am_Wp d 10 33 [.ref 54, .ref 96] [] (hp nS M) Q = Q none (hp nS (am_up M 54 3 (M 96 3))) := by
  refine (eq_run 4 (q := (41, [.ref 54, .ref 96], [], hp nS (am_up M 54 3 (M 96 3)))) (by with_unfolding_all rfl)).trans ?_
  exact eq_retV2 (e := (.return_, 1, 0, 0, 0)) (by with_unfolding_all rfl) rfl (by with_unfolding_all rfl)
-- LarkExchange$Heath takes(II)I (12, (50, None, None))
set_option maxRecDepth 20000 in
theorem b_12_0 {d nS : Nat} {x1 x2 : Int32} {M : am_M} {Q : Option Value → am_H → Prop} : am_Wp d 12 0 [.ref 50, .int x1, .int x2] [] (hp nS M) Q = if ¬ x1 = (-1) then am_Wp d 12 12 [.ref 50, .int x1, .int x2] [] (hp nS M) Q else am_Wp d 12 5 [.ref 50, .int x1, .int x2] [] (hp nS M) Q := by
  refine (eq_run 2 (q := (2, [.ref 50, .int x1, .int x2], [.int (-1), .int x1], hp nS M)) (by with_unfolding_all rfl)).trans ?_
  exact eq_cmp_ne (by with_unfolding_all rfl)
set_option maxRecDepth 20000 in
theorem b_12_5 {d nS : Nat} {x1 x2 : Int32} {M : am_M} {Q : Option Value → am_H → Prop} : am_Wp d 12 5 [.ref 50, .int x1, .int x2] [] (hp nS M) Q = Q (some (.int 0)) (hp nS (am_up M 50 1 0)) := by
  refine (eq_run 4 (q := (11, [.ref 50, .int x1, .int x2], [.int 0], hp nS (am_up M 50 1 0))) (by with_unfolding_all rfl)).trans ?_
  exact eq_retI2 (e := (.ireturn, 1, 0, 0, 0)) (t := .int) (by with_unfolding_all rfl) rfl (by with_unfolding_all rfl) rfl
set_option maxRecDepth 20000 in
theorem b_12_12 {d nS : Nat} {x1 x2 : Int32} {M : am_M} {Q : Option Value → am_H → Prop} : am_Wp (d + 1) 12 12 [.ref 50, .int x1, .int x2] [] (hp nS M) Q = am_Wp d 125 0 [.int x1, .int 0, .int 7] [] (hp nS M) (fun v h1 => am_Wp (d + 1) 12 19 [.ref 50, .int x1, .int x2] (am_ans v []) h1 Q) := by
  refine (eq_run 3 (q := (16, [.ref 50, .int x1, .int x2], [.int 7, .int 0, .int x1], hp nS M)) (by with_unfolding_all rfl)).trans ?_
  exact eq_call2 (e := (.invokestatic 29, 3, 3, 125, 77)) (as := [.int x1, .int 0, .int 7]) (r := []) (n := 3) (m := 3) (by with_unfolding_all rfl) rfl (by decide) (by with_unfolding_all rfl) (by decide) (by with_unfolding_all rfl) ⟨fun z => absurd z (by decide), fun z => by simp at z⟩
set_option maxRecDepth 20000 in
theorem b_12_19 {d nS : Nat} {x1 x2 s0 : Int32} {M : am_M} {Q : Option Value → am_H → Prop} : am_Wp d 12 19 [.ref 50, .int x1, .int x2] [.int s0] (hp nS M) Q = if ¬ s0 = 0 then am_Wp d 12 46 [.ref 50, .int x1, .int x2] [] (hp nS M) Q else am_Wp d 12 22 [.ref 50, .int x1, .int x2] [] (hp nS M) Q := by
  exact eq_if_ne (by with_unfolding_all rfl)
set_option maxRecDepth 20000 in
theorem b_12_22 {d nS : Nat} {x1 x2 : Int32} {M : am_M} {Q : Option Value → am_H → Prop} : am_Wp (d + 1) 12 22 [.ref 50, .int x1, .int x2] [] (hp nS M) Q = am_Wp d 125 0 [.int x2, .int 0, .int 7] [] (hp nS M) (fun v h1 => am_Wp (d + 1) 12 29 [.ref 50, .int x1, .int x2] (am_ans v []) h1 Q) := by
  refine (eq_run 3 (q := (26, [.ref 50, .int x1, .int x2], [.int 7, .int 0, .int x2], hp nS M)) (by with_unfolding_all rfl)).trans ?_
  exact eq_call2 (e := (.invokestatic 29, 3, 3, 125, 77)) (as := [.int x2, .int 0, .int 7]) (r := []) (n := 3) (m := 3) (by with_unfolding_all rfl) rfl (by decide) (by with_unfolding_all rfl) (by decide) (by with_unfolding_all rfl) ⟨fun z => absurd z (by decide), fun z => by simp at z⟩
set_option maxRecDepth 20000 in
theorem b_12_29 {d nS : Nat} {x1 x2 s0 : Int32} {M : am_M} {Q : Option Value → am_H → Prop} : am_Wp d 12 29 [.ref 50, .int x1, .int x2] [.int s0] (hp nS M) Q = if ¬ s0 = 0 then am_Wp d 12 46 [.ref 50, .int x1, .int x2] [] (hp nS M) Q else am_Wp d 12 32 [.ref 50, .int x1, .int x2] [] (hp nS M) Q := by
  exact eq_if_ne (by with_unfolding_all rfl)
set_option maxRecDepth 20000 in
theorem b_12_32 {d nS : Nat} {x1 x2 : Int32} {M : am_M} {Q : Option Value → am_H → Prop} : am_Wp d 12 32 [.ref 50, .int x1, .int x2] [] (hp nS M) Q = if x1 = x2 then am_Wp d 12 46 [.ref 50, .int x1, .int x2] [] (hp nS M) Q else am_Wp d 12 37 [.ref 50, .int x1, .int x2] [] (hp nS M) Q := by
  refine (eq_run 2 (q := (34, [.ref 50, .int x1, .int x2], [.int x2, .int x1], hp nS M)) (by with_unfolding_all rfl)).trans ?_
  exact eq_cmp_eq (by with_unfolding_all rfl)
set_option maxRecDepth 20000 in
theorem b_12_37 {d nS : Nat} {x1 x2 : Int32} {M : am_M} {Q : Option Value → am_H → Prop} : am_Wp d 12 37 [.ref 50, .int x1, .int x2] [] (hp nS M) Q = if (M 50 1) < 14 then am_Wp d 12 48 [.ref 50, .int x1, .int x2] [] (hp nS M) Q else am_Wp d 12 46 [.ref 50, .int x1, .int x2] [] (hp nS M) Q := by
  refine (eq_run 3 (q := (43, [.ref 50, .int x1, .int x2], [.int 14, .int (M 50 1)], hp nS M)) (by with_unfolding_all rfl)).trans ?_
  exact eq_cmp_lt (by with_unfolding_all rfl)
set_option maxRecDepth 20000 in
theorem b_12_46 {d nS : Nat} {x1 x2 : Int32} {M : am_M} {Q : Option Value → am_H → Prop} : am_Wp d 12 46 [.ref 50, .int x1, .int x2] [] (hp nS M) Q = Q (some (.int (-1))) (hp nS M) := by
  refine (eq_run 1 (q := (47, [.ref 50, .int x1, .int x2], [.int (-1)], hp nS M)) (by with_unfolding_all rfl)).trans ?_
  exact eq_retI2 (e := (.ireturn, 1, 0, 0, 0)) (t := .int) (by with_unfolding_all rfl) rfl (by with_unfolding_all rfl) rfl
set_option maxRecDepth 20000 in
theorem b_12_48 {d nS : Nat} {x1 x2 : Int32} {M : am_M} {Q : Option Value → am_H → Prop} (h1 : vp_in ((M 50 1) * 2) 28) (h2 : vp_in ((((am_up M 51 ((M 50 1) * 2).toNatClampNeg x1) 50 1) * 2) + 1) 28) : am_Wp d 12 48 [.ref 50, .int x1, .int x2] [] (hp nS M) Q = Q (some (.int ((am_up (am_up (am_up M 51 ((M 50 1) * 2).toNatClampNeg x1) 51 ((((am_up M 51 ((M 50 1) * 2).toNatClampNeg x1) 50 1) * 2) + 1).toNatClampNeg x2) 50 1 (((am_up (am_up M 51 ((M 50 1) * 2).toNatClampNeg x1) 51 ((((am_up M 51 ((M 50 1) * 2).toNatClampNeg x1) 50 1) * 2) + 1).toNatClampNeg x2) 50 1) + 1)) 50 1))) (hp nS (am_up (am_up (am_up M 51 ((M 50 1) * 2).toNatClampNeg x1) 51 ((((am_up M 51 ((M 50 1) * 2).toNatClampNeg x1) 50 1) * 2) + 1).toNatClampNeg x2) 50 1 (((am_up (am_up M 51 ((M 50 1) * 2).toNatClampNeg x1) 51 ((((am_up M 51 ((M 50 1) * 2).toNatClampNeg x1) 50 1) * 2) + 1).toNatClampNeg x2) 50 1) + 1))) := by
  refine (eq_run 7 (q := (59, [.ref 50, .int x1, .int x2], [.int x1, .int ((M 50 1) * 2), .ref 51], hp nS M)) (by with_unfolding_all rfl)).trans ?_
  refine (eq_ast (e := (.iastore, 1, 0, 0, 0)) (by with_unfolding_all rfl) rfl (n := 28) (by with_unfolding_all rfl) (by decide) h1).trans ?_
  refine (eq_run 9 (q := (73, [.ref 50, .int x1, .int x2], [.int x2, .int ((((am_up M 51 ((M 50 1) * 2).toNatClampNeg x1) 50 1) * 2) + 1), .ref 51], hp nS (am_up M 51 ((M 50 1) * 2).toNatClampNeg x1))) (by with_unfolding_all rfl)).trans ?_
  refine (eq_ast (e := (.iastore, 1, 0, 0, 0)) (by with_unfolding_all rfl) rfl (n := 28) (by with_unfolding_all rfl) (by decide) h2).trans ?_
  refine (eq_run 8 (q := (88, [.ref 50, .int x1, .int x2], [.int ((am_up (am_up (am_up M 51 ((M 50 1) * 2).toNatClampNeg x1) 51 ((((am_up M 51 ((M 50 1) * 2).toNatClampNeg x1) 50 1) * 2) + 1).toNatClampNeg x2) 50 1 (((am_up (am_up M 51 ((M 50 1) * 2).toNatClampNeg x1) 51 ((((am_up M 51 ((M 50 1) * 2).toNatClampNeg x1) 50 1) * 2) + 1).toNatClampNeg x2) 50 1) + 1)) 50 1)], hp nS (am_up (am_up (am_up M 51 ((M 50 1) * 2).toNatClampNeg x1) 51 ((((am_up M 51 ((M 50 1) * 2).toNatClampNeg x1) 50 1) * 2) + 1).toNatClampNeg x2) 50 1 (((am_up (am_up M 51 ((M 50 1) * 2).toNatClampNeg x1) 51 ((((am_up M 51 ((M 50 1) * 2).toNatClampNeg x1) 50 1) * 2) + 1).toNatClampNeg x2) 50 1) + 1)))) (by with_unfolding_all rfl)).trans ?_
  exact eq_retI2 (e := (.ireturn, 1, 0, 0, 0)) (t := .int) (by with_unfolding_all rfl) rfl (by with_unfolding_all rfl) rfl
-- LarkExchange$Heath goings(II)I (13, (50, None, None))
set_option maxRecDepth 20000 in
theorem b_13_0 {d nS : Nat} {x1 x2 : Int32} {M : am_M} {Q : Option Value → am_H → Prop} : am_Wp (d + 1) 13 0 [.ref 50, .int x1, .int x2, .retAddr 0, .retAddr 0] [] (hp nS M) Q = am_Wp d 14 0 [.ref 50, .retAddr 0, .retAddr 0, .retAddr 0] [] (hp nS M) (fun v h1 => am_Wp (d + 1) 13 4 [.ref 50, .int x1, .int x2, .retAddr 0, .retAddr 0] (am_ans v []) h1 Q) := by
  refine (eq_run 1 (q := (1, [.ref 50, .int x1, .int x2, .retAddr 0, .retAddr 0], [.ref 50], hp nS M)) (by with_unfolding_all rfl)).trans ?_
  exact eq_call2 (e := (.invokevirtual 33, 3, 0, 14, 78)) (as := [.ref 50]) (r := []) (n := 1) (m := 4) (by with_unfolding_all rfl) rfl (by decide) (by with_unfolding_all rfl) (by decide) (by with_unfolding_all rfl) ⟨fun _ => am_rec_ok (c := 4) (by with_unfolding_all rfl) (by decide +kernel), fun z => by simp at z⟩
set_option maxRecDepth 20000 in
theorem b_13_4 {d nS : Nat} {x1 x2 : Int32} {M : am_M} {Q : Option Value → am_H → Prop} : am_Wp d 13 4 [.ref 50, .int x1, .int x2, .retAddr 0, .retAddr 0] [] (hp nS M) Q = am_Wp d 13 6 [.ref 50, .int x1, .int x2, .int 0, .retAddr 0] [] (hp nS M) Q := by
  exact eq_run 2 (q := (6, [.ref 50, .int x1, .int x2, .int 0, .retAddr 0], [], hp nS M)) (by with_unfolding_all rfl)
set_option maxRecDepth 20000 in
theorem b_13_6 {d nS : Nat} {x1 x2 x3 : Int32} {M : am_M} {Q : Option Value → am_H → Prop} : am_Wp d 13 6 [.ref 50, .int x1, .int x2, .int x3, .retAddr 0] [] (hp nS M) Q = if 64 ≤ x3 then am_Wp d 13 40 [.ref 50, .int x1, .int x2, .int x3, .retAddr 0] [] (hp nS M) Q else am_Wp d 13 12 [.ref 50, .int x1, .int x2, .int x3, .retAddr 0] [] (hp nS M) Q := by
  refine (eq_run 2 (q := (9, [.ref 50, .int x1, .int x2, .int x3, .retAddr 0], [.int 64, .int x3], hp nS M)) (by with_unfolding_all rfl)).trans ?_
  exact eq_cmp_ge (by with_unfolding_all rfl)
set_option maxRecDepth 20000 in
theorem b_13_12 {d nS : Nat} {x1 x2 x3 : Int32} {M : am_M} {Q : Option Value → am_H → Prop} : am_Wp d 13 12 [.ref 50, .int x1, .int x2, .int x3, .retAddr 0] [] (hp nS M) Q = if ¬ (x3 / 8) = (x3 - x3 / 8 * 8) then am_Wp d 13 32 [.ref 50, .int x1, .int x2, .int x3, .retAddr 0] [.int x3, .ref 53] (hp nS M) Q else am_Wp d 13 28 [.ref 50, .int x1, .int x2, .int x3, .retAddr 0] [.int x3, .ref 53] (hp nS M) Q := by
  refine (eq_run 9 (q := (25, [.ref 50, .int x1, .int x2, .int x3, .retAddr 0], [.int (x3 - x3 / 8 * 8), .int (x3 / 8), .int x3, .ref 53], hp nS M)) (by with_unfolding_all rfl)).trans ?_
  exact eq_cmp_ne (by with_unfolding_all rfl)
set_option maxRecDepth 20000 in
theorem b_13_28 {d nS : Nat} {x1 x2 x3 s1 : Int32} {M : am_M} {Q : Option Value → am_H → Prop} : am_Wp d 13 28 [.ref 50, .int x1, .int x2, .int x3, .retAddr 0] [.int s1, .ref 53] (hp nS M) Q = am_Wp d 13 33 [.ref 50, .int x1, .int x2, .int x3, .retAddr 0] [.int 0, .int s1, .ref 53] (hp nS M) Q := by
  exact eq_run 2 (q := (33, [.ref 50, .int x1, .int x2, .int x3, .retAddr 0], [.int 0, .int s1, .ref 53], hp nS M)) (by with_unfolding_all rfl)
set_option maxRecDepth 20000 in
theorem b_13_32 {d nS : Nat} {x1 x2 x3 s1 : Int32} {M : am_M} {Q : Option Value → am_H → Prop} : am_Wp d 13 32 [.ref 50, .int x1, .int x2, .int x3, .retAddr 0] [.int s1, .ref 53] (hp nS M) Q = am_Wp d 13 33 [.ref 50, .int x1, .int x2, .int x3, .retAddr 0] [.int (-1), .int s1, .ref 53] (hp nS M) Q := by
  exact eq_run 1 (q := (33, [.ref 50, .int x1, .int x2, .int x3, .retAddr 0], [.int (-1), .int s1, .ref 53], hp nS M)) (by with_unfolding_all rfl)
set_option maxRecDepth 20000 in
theorem b_13_33 {d nS : Nat} {x1 x2 x3 s1 s2 : Int32} {M : am_M} {Q : Option Value → am_H → Prop} (h1 : vp_in s1 64) : am_Wp d 13 33 [.ref 50, .int x1, .int x2, .int x3, .retAddr 0] [.int s2, .int s1, .ref 53] (hp nS M) Q = am_Wp d 13 6 [.ref 50, .int x1, .int x2, .int (x3 + 1), .retAddr 0] [] (hp nS (am_up M 53 s1.toNatClampNeg s2)) Q := by
  refine (eq_ast (e := (.iastore, 1, 0, 0, 0)) (by with_unfolding_all rfl) rfl (n := 64) (by with_unfolding_all rfl) (by decide) h1).trans ?_
  exact eq_run 2 (q := (6, [.ref 50, .int x1, .int x2, .int (x3 + 1), .retAddr 0], [], hp nS (am_up M 53 s1.toNatClampNeg s2))) (by with_unfolding_all rfl)
set_option maxRecDepth 20000 in
theorem b_13_40 {d nS : Nat} {x1 x2 x3 : Int32} {M : am_M} {Q : Option Value → am_H → Prop} : am_Wp d 13 40 [.ref 50, .int x1, .int x2, .int x3, .retAddr 0] [] (hp nS M) Q = am_Wp d 13 45 [.ref 50, .int x1, .int x2, .int 1, .int 1] [] (hp nS M) Q := by
  exact eq_run 4 (q := (45, [.ref 50, .int x1, .int x2, .int 1, .int 1], [], hp nS M)) (by with_unfolding_all rfl)
set_option maxRecDepth 20000 in
theorem b_13_45 {d nS : Nat} {x1 x2 x3 x4 : Int32} {M : am_M} {Q : Option Value → am_H → Prop} : am_Wp d 13 45 [.ref 50, .int x1, .int x2, .int x3, .int x4] [] (hp nS M) Q = if 64 < x4 then am_Wp d 13 69 [.ref 50, .int x1, .int x2, .int x3, .int x4] [] (hp nS M) Q else am_Wp d 13 52 [.ref 50, .int x1, .int x2, .int x3, .int x4] [] (hp nS M) Q := by
  refine (eq_run 2 (q := (49, [.ref 50, .int x1, .int x2, .int x3, .int x4], [.int 64, .int x4], hp nS M)) (by with_unfolding_all rfl)).trans ?_
  exact eq_cmp_gt (by with_unfolding_all rfl)
set_option maxRecDepth 20000 in
theorem b_13_52 {d nS : Nat} {x1 x2 x3 x4 : Int32} {M : am_M} {Q : Option Value → am_H → Prop} : am_Wp d 13 52 [.ref 50, .int x1, .int x2, .int x3, .int x4] [] (hp nS M) Q = if x3 = 0 then am_Wp d 13 69 [.ref 50, .int x1, .int x2, .int x3, .int x4] [] (hp nS M) Q else am_Wp d 13 56 [.ref 50, .int x1, .int x2, .int x3, .int x4] [] (hp nS M) Q := by
  refine (eq_run 1 (q := (53, [.ref 50, .int x1, .int x2, .int x3, .int x4], [.int x3], hp nS M)) (by with_unfolding_all rfl)).trans ?_
  exact eq_if_eq (by with_unfolding_all rfl)
set_option maxRecDepth 20000 in
theorem b_13_56 {d nS : Nat} {x1 x2 x3 x4 : Int32} {M : am_M} {Q : Option Value → am_H → Prop} : am_Wp (d + 1) 13 56 [.ref 50, .int x1, .int x2, .int x3, .int x4] [] (hp nS M) Q = am_Wp d 15 0 [.ref 50, .int x4, .retAddr 0, .retAddr 0] [] (hp nS M) (fun v h1 => am_Wp (d + 1) 13 62 [.ref 50, .int x1, .int x2, .int x3, .int x4] (am_ans v []) h1 Q) := by
  refine (eq_run 2 (q := (59, [.ref 50, .int x1, .int x2, .int x3, .int x4], [.int x4, .ref 50], hp nS M)) (by with_unfolding_all rfl)).trans ?_
  exact eq_call2 (e := (.invokevirtual 36, 3, 0, 15, 79)) (as := [.ref 50, .int x4]) (r := []) (n := 2) (m := 4) (by with_unfolding_all rfl) rfl (by decide) (by with_unfolding_all rfl) (by decide) (by with_unfolding_all rfl) ⟨fun _ => am_rec_ok (c := 4) (by with_unfolding_all rfl) (by decide +kernel), fun z => by simp at z⟩
set_option maxRecDepth 20000 in
theorem b_13_62 {d nS : Nat} {x1 x2 x3 x4 s0 : Int32} {M : am_M} {Q : Option Value → am_H → Prop} : am_Wp d 13 62 [.ref 50, .int x1, .int x2, .int x3, .int x4] [.int s0] (hp nS M) Q = am_Wp d 13 45 [.ref 50, .int x1, .int x2, .int s0, .int (x4 + 1)] [] (hp nS M) Q := by
  exact eq_run 3 (q := (45, [.ref 50, .int x1, .int x2, .int s0, .int (x4 + 1)], [], hp nS M)) (by with_unfolding_all rfl)
set_option maxRecDepth 20000 in
theorem b_13_69 {d nS : Nat} {x1 x2 x3 x4 : Int32} {M : am_M} {Q : Option Value → am_H → Prop} (h1 : vp_in ((x1 * 8) + x2) 64) : am_Wp d 13 69 [.ref 50, .int x1, .int x2, .int x3, .int x4] [] (hp nS M) Q = Q (some (.int (M 53 ((x1 * 8) + x2).toNatClampNeg))) (hp nS M) := by
  refine (eq_run 7 (q := (79, [.ref 50, .int x1, .int x2, .int x3, .int x4], [.int ((x1 * 8) + x2), .ref 53], hp nS M)) (by with_unfolding_all rfl)).trans ?_
  refine (eq_ald (e := (.iaload, 1, 0, 0, 0)) (by with_unfolding_all rfl) rfl (n := 64) (by with_unfolding_all rfl) h1).trans ?_
  exact eq_retI2 (e := (.ireturn, 1, 0, 0, 0)) (t := .int) (by with_unfolding_all rfl) rfl (by with_unfolding_all rfl) rfl
-- LarkExchange$Heath joins()V (14, (50,))
set_option maxRecDepth 20000 in
theorem b_14_0 {d nS : Nat} {M : am_M} {Q : Option Value → am_H → Prop} : am_Wp d 14 0 [.ref 50, .retAddr 0, .retAddr 0, .retAddr 0] [] (hp nS M) Q = am_Wp d 14 2 [.ref 50, .int 0, .retAddr 0, .retAddr 0] [] (hp nS M) Q := by
  exact eq_run 2 (q := (2, [.ref 50, .int 0, .retAddr 0, .retAddr 0], [], hp nS M)) (by with_unfolding_all rfl)
set_option maxRecDepth 20000 in
theorem b_14_2 {d nS : Nat} {x1 : Int32} {M : am_M} {Q : Option Value → am_H → Prop} : am_Wp d 14 2 [.ref 50, .int x1, .retAddr 0, .retAddr 0] [] (hp nS M) Q = if 8 ≤ x1 then am_Wp d 14 23 [.ref 50, .int x1, .retAddr 0, .retAddr 0] [] (hp nS M) Q else am_Wp d 14 8 [.ref 50, .int x1, .retAddr 0, .retAddr 0] [] (hp nS M) Q := by
  refine (eq_run 2 (q := (5, [.ref 50, .int x1, .retAddr 0, .retAddr 0], [.int 8, .int x1], hp nS M)) (by with_unfolding_all rfl)).trans ?_
  exact eq_cmp_ge (by with_unfolding_all rfl)
set_option maxRecDepth 20000 in
theorem b_14_8 {d nS : Nat} {x1 : Int32} {M : am_M} {Q : Option Value → am_H → Prop} (h1 : vp_in x1 8) : am_Wp d 14 8 [.ref 50, .int x1, .retAddr 0, .retAddr 0] [] (hp nS M) Q = am_Wp d 14 2 [.ref 50, .int (x1 + 1), .retAddr 0, .retAddr 0] [] (hp nS (am_up M 52 x1.toNatClampNeg (1 <<< (x1 &&& 31)))) Q := by
  refine (eq_run 6 (q := (16, [.ref 50, .int x1, .retAddr 0, .retAddr 0], [.int (1 <<< (x1 &&& 31)), .int x1, .ref 52], hp nS M)) (by with_unfolding_all rfl)).trans ?_
  refine (eq_ast (e := (.iastore, 1, 0, 0, 0)) (by with_unfolding_all rfl) rfl (n := 8) (by with_unfolding_all rfl) (by decide) h1).trans ?_
  exact eq_run 2 (q := (2, [.ref 50, .int (x1 + 1), .retAddr 0, .retAddr 0], [], hp nS (am_up M 52 x1.toNatClampNeg (1 <<< (x1 &&& 31))))) (by with_unfolding_all rfl)
set_option maxRecDepth 20000 in
theorem b_14_23 {d nS : Nat} {x1 : Int32} {M : am_M} {Q : Option Value → am_H → Prop} : am_Wp d 14 23 [.ref 50, .int x1, .retAddr 0, .retAddr 0] [] (hp nS M) Q = am_Wp d 14 25 [.ref 50, .int 0, .retAddr 0, .retAddr 0] [] (hp nS M) Q := by
  exact eq_run 2 (q := (25, [.ref 50, .int 0, .retAddr 0, .retAddr 0], [], hp nS M)) (by with_unfolding_all rfl)
set_option maxRecDepth 20000 in
theorem b_14_25 {d nS : Nat} {x1 : Int32} {zx2 zx3 : Value} {M : am_M} {Q : Option Value → am_H → Prop} : am_Wp d 14 25 [.ref 50, .int x1, zx2, zx3] [] (hp nS M) Q = if (M 50 1) ≤ x1 then am_Wp d 14 83 [.ref 50, .int x1, zx2, zx3] [] (hp nS M) Q else am_Wp d 14 33 [.ref 50, .int x1, zx2, zx3] [] (hp nS M) Q := by
  refine (eq_run 3 (q := (30, [.ref 50, .int x1, zx2, zx3], [.int (M 50 1), .int x1], hp nS M)) (by with_unfolding_all rfl)).trans ?_
  exact eq_cmp_ge (by with_unfolding_all rfl)
set_option maxRecDepth 20000 in
theorem b_14_33 {d nS : Nat} {x1 : Int32} {zx2 zx3 : Value} {M : am_M} {Q : Option Value → am_H → Prop} (h1 : vp_in (x1 * 2) 28) (h2 : vp_in ((x1 * 2) + 1) 28) (h3 : vp_in (M 51 (x1 * 2).toNatClampNeg) 8) (h4 : vp_in (M 51 (x1 * 2).toNatClampNeg) 8) (h5 : vp_in (M 51 ((x1 * 2) + 1).toNatClampNeg) 8) (h6 : vp_in (M 51 ((x1 * 2) + 1).toNatClampNeg) 8) : am_Wp d 14 33 [.ref 50, .int x1, zx2, zx3] [] (hp nS M) Q = am_Wp d 14 25 [.ref 50, .int (x1 + 1), .int (M 51 (x1 * 2).toNatClampNeg), .int (M 51 ((x1 * 2) + 1).toNatClampNeg)] [] (hp nS (am_up (am_up M 52 (M 51 (x1 * 2).toNatClampNeg).toNatClampNeg ((M 52 (M 51 (x1 * 2).toNatClampNeg).toNatClampNeg) ||| (1 <<< ((M 51 ((x1 * 2) + 1).toNatClampNeg) &&& 31)))) 52 (M 51 ((x1 * 2) + 1).toNatClampNeg).toNatClampNeg (((am_up M 52 (M 51 (x1 * 2).toNatClampNeg).toNatClampNeg ((M 52 (M 51 (x1 * 2).toNatClampNeg).toNatClampNeg) ||| (1 <<< ((M 51 ((x1 * 2) + 1).toNatClampNeg) &&& 31)))) 52 (M 51 ((x1 * 2) + 1).toNatClampNeg).toNatClampNeg) ||| (1 <<< ((M 51 (x1 * 2).toNatClampNeg) &&& 31))))) Q := by
  refine (eq_run 5 (q := (40, [.ref 50, .int x1, zx2, zx3], [.int (x1 * 2), .ref 51], hp nS M)) (by with_unfolding_all rfl)).trans ?_
  refine (eq_ald (e := (.iaload, 1, 0, 0, 0)) (by with_unfolding_all rfl) rfl (n := 28) (by with_unfolding_all rfl) h1).trans ?_
  refine (eq_run 8 (q := (51, [.ref 50, .int x1, .int (M 51 (x1 * 2).toNatClampNeg), zx3], [.int ((x1 * 2) + 1), .ref 51], hp nS M)) (by with_unfolding_all rfl)).trans ?_
  refine (eq_ald (e := (.iaload, 1, 0, 0, 0)) (by with_unfolding_all rfl) rfl (n := 28) (by with_unfolding_all rfl) h2).trans ?_
  refine (eq_run 5 (q := (59, [.ref 50, .int x1, .int (M 51 (x1 * 2).toNatClampNeg), .int (M 51 ((x1 * 2) + 1).toNatClampNeg)], [.int (M 51 (x1 * 2).toNatClampNeg), .ref 52, .int (M 51 (x1 * 2).toNatClampNeg), .ref 52], hp nS M)) (by with_unfolding_all rfl)).trans ?_
  refine (eq_ald (e := (.iaload, 1, 0, 0, 0)) (by with_unfolding_all rfl) rfl (n := 8) (by with_unfolding_all rfl) h3).trans ?_
  refine (eq_run 4 (q := (64, [.ref 50, .int x1, .int (M 51 (x1 * 2).toNatClampNeg), .int (M 51 ((x1 * 2) + 1).toNatClampNeg)], [.int ((M 52 (M 51 (x1 * 2).toNatClampNeg).toNatClampNeg) ||| (1 <<< ((M 51 ((x1 * 2) + 1).toNatClampNeg) &&& 31))), .int (M 51 (x1 * 2).toNatClampNeg), .ref 52], hp nS M)) (by with_unfolding_all rfl)).trans ?_
  refine (eq_ast (e := (.iastore, 1, 0, 0, 0)) (by with_unfolding_all rfl) rfl (n := 8) (by with_unfolding_all rfl) (by decide) h4).trans ?_
  refine (eq_run 4 (q := (71, [.ref 50, .int x1, .int (M 51 (x1 * 2).toNatClampNeg), .int (M 51 ((x1 * 2) + 1).toNatClampNeg)], [.int (M 51 ((x1 * 2) + 1).toNatClampNeg), .ref 52, .int (M 51 ((x1 * 2) + 1).toNatClampNeg), .ref 52], hp nS (am_up M 52 (M 51 (x1 * 2).toNatClampNeg).toNatClampNeg ((M 52 (M 51 (x1 * 2).toNatClampNeg).toNatClampNeg) ||| (1 <<< ((M 51 ((x1 * 2) + 1).toNatClampNeg) &&& 31)))))) (by with_unfolding_all rfl)).trans ?_
  refine (eq_ald (e := (.iaload, 1, 0, 0, 0)) (by with_unfolding_all rfl) rfl (n := 8) (by with_unfolding_all rfl) h5).trans ?_
  refine (eq_run 4 (q := (76, [.ref 50, .int x1, .int (M 51 (x1 * 2).toNatClampNeg), .int (M 51 ((x1 * 2) + 1).toNatClampNeg)], [.int (((am_up M 52 (M 51 (x1 * 2).toNatClampNeg).toNatClampNeg ((M 52 (M 51 (x1 * 2).toNatClampNeg).toNatClampNeg) ||| (1 <<< ((M 51 ((x1 * 2) + 1).toNatClampNeg) &&& 31)))) 52 (M 51 ((x1 * 2) + 1).toNatClampNeg).toNatClampNeg) ||| (1 <<< ((M 51 (x1 * 2).toNatClampNeg) &&& 31))), .int (M 51 ((x1 * 2) + 1).toNatClampNeg), .ref 52], hp nS (am_up M 52 (M 51 (x1 * 2).toNatClampNeg).toNatClampNeg ((M 52 (M 51 (x1 * 2).toNatClampNeg).toNatClampNeg) ||| (1 <<< ((M 51 ((x1 * 2) + 1).toNatClampNeg) &&& 31)))))) (by with_unfolding_all rfl)).trans ?_
  refine (eq_ast (e := (.iastore, 1, 0, 0, 0)) (by with_unfolding_all rfl) rfl (n := 8) (by with_unfolding_all rfl) (by decide) h6).trans ?_
  exact eq_run 2 (q := (25, [.ref 50, .int (x1 + 1), .int (M 51 (x1 * 2).toNatClampNeg), .int (M 51 ((x1 * 2) + 1).toNatClampNeg)], [], hp nS (am_up (am_up M 52 (M 51 (x1 * 2).toNatClampNeg).toNatClampNeg ((M 52 (M 51 (x1 * 2).toNatClampNeg).toNatClampNeg) ||| (1 <<< ((M 51 ((x1 * 2) + 1).toNatClampNeg) &&& 31)))) 52 (M 51 ((x1 * 2) + 1).toNatClampNeg).toNatClampNeg (((am_up M 52 (M 51 (x1 * 2).toNatClampNeg).toNatClampNeg ((M 52 (M 51 (x1 * 2).toNatClampNeg).toNatClampNeg) ||| (1 <<< ((M 51 ((x1 * 2) + 1).toNatClampNeg) &&& 31)))) 52 (M 51 ((x1 * 2) + 1).toNatClampNeg).toNatClampNeg) ||| (1 <<< ((M 51 (x1 * 2).toNatClampNeg) &&& 31)))))) (by with_unfolding_all rfl)
set_option maxRecDepth 20000 in
theorem b_14_83 {d nS : Nat} {x1 : Int32} {zx2 zx3 : Value} {M : am_M} {Q : Option Value → am_H → Prop} : am_Wp d 14 83 [.ref 50, .int x1, zx2, zx3] [] (hp nS M) Q = Q none (hp nS M) := by
  exact eq_retV2 (e := (.return_, 1, 0, 0, 0)) (by with_unfolding_all rfl) rfl (by with_unfolding_all rfl)
-- LarkExchange$Heath learns(I)Z (15, (50, None))
set_option maxRecDepth 20000 in
theorem b_15_0 {d nS : Nat} {x1 : Int32} {M : am_M} {Q : Option Value → am_H → Prop} : am_Wp d 15 0 [.ref 50, .int x1, .retAddr 0, .retAddr 0] [] (hp nS M) Q = am_Wp d 15 4 [.ref 50, .int x1, .int 0, .int 0] [] (hp nS M) Q := by
  exact eq_run 4 (q := (4, [.ref 50, .int x1, .int 0, .int 0], [], hp nS M)) (by with_unfolding_all rfl)
set_option maxRecDepth 20000 in
theorem b_15_4 {d nS : Nat} {x1 x2 x3 : Int32} {M : am_M} {Q : Option Value → am_H → Prop} : am_Wp d 15 4 [.ref 50, .int x1, .int x2, .int x3] [] (hp nS M) Q = if 64 ≤ x3 then am_Wp d 15 51 [.ref 50, .int x1, .int x2, .int x3] [] (hp nS M) Q else am_Wp d 15 10 [.ref 50, .int x1, .int x2, .int x3] [] (hp nS M) Q := by
  refine (eq_run 2 (q := (7, [.ref 50, .int x1, .int x2, .int x3], [.int 64, .int x3], hp nS M)) (by with_unfolding_all rfl)).trans ?_
  exact eq_cmp_ge (by with_unfolding_all rfl)
set_option maxRecDepth 20000 in
theorem b_15_10 {d nS : Nat} {x1 x2 x3 : Int32} {M : am_M} {Q : Option Value → am_H → Prop} (h1 : vp_in x3 64) : am_Wp d 15 10 [.ref 50, .int x1, .int x2, .int x3] [] (hp nS M) Q = if ¬ (M 53 x3.toNatClampNeg) = (-1) then am_Wp d 15 45 [.ref 50, .int x1, .int x2, .int x3] [] (hp nS M) Q else am_Wp d 15 20 [.ref 50, .int x1, .int x2, .int x3] [] (hp nS M) Q := by
  refine (eq_run 3 (q := (15, [.ref 50, .int x1, .int x2, .int x3], [.int x3, .ref 53], hp nS M)) (by with_unfolding_all rfl)).trans ?_
  refine (eq_ald (e := (.iaload, 1, 0, 0, 0)) (by with_unfolding_all rfl) rfl (n := 64) (by with_unfolding_all rfl) h1).trans ?_
  refine (eq_run 1 (q := (17, [.ref 50, .int x1, .int x2, .int x3], [.int (-1), .int (M 53 x3.toNatClampNeg)], hp nS M)) (by with_unfolding_all rfl)).trans ?_
  exact eq_cmp_ne (by with_unfolding_all rfl)
set_option maxRecDepth 20000 in
theorem b_15_20 {d nS : Nat} {x1 x2 x3 : Int32} {M : am_M} {Q : Option Value → am_H → Prop} : am_Wp (d + 1) 15 20 [.ref 50, .int x1, .int x2, .int x3] [] (hp nS M) Q = am_Wp d 16 0 [.ref 50, .int (x3 / 8), .int (x3 - x3 / 8 * 8), .int x1, .retAddr 0] [] (hp nS M) (fun v h1 => am_Wp (d + 1) 15 33 [.ref 50, .int x1, .int x2, .int x3] (am_ans v []) h1 Q) := by
  refine (eq_run 8 (q := (30, [.ref 50, .int x1, .int x2, .int x3], [.int x1, .int (x3 - x3 / 8 * 8), .int (x3 / 8), .ref 50], hp nS M)) (by with_unfolding_all rfl)).trans ?_
  exact eq_call2 (e := (.invokevirtual 40, 3, 0, 16, 80)) (as := [.ref 50, .int (x3 / 8), .int (x3 - x3 / 8 * 8), .int x1]) (r := []) (n := 4) (m := 5) (by with_unfolding_all rfl) rfl (by decide) (by with_unfolding_all rfl) (by decide) (by with_unfolding_all rfl) ⟨fun _ => am_rec_ok (c := 4) (by with_unfolding_all rfl) (by decide +kernel), fun z => by simp at z⟩
set_option maxRecDepth 20000 in
theorem b_15_33 {d nS : Nat} {x1 x2 x3 s0 : Int32} {M : am_M} {Q : Option Value → am_H → Prop} : am_Wp d 15 33 [.ref 50, .int x1, .int x2, .int x3] [.int s0] (hp nS M) Q = if s0 = 0 then am_Wp d 15 45 [.ref 50, .int x1, .int x2, .int x3] [] (hp nS M) Q else am_Wp d 15 36 [.ref 50, .int x1, .int x2, .int x3] [] (hp nS M) Q := by
  exact eq_if_eq (by with_unfolding_all rfl)
set_option maxRecDepth 20000 in
theorem b_15_36 {d nS : Nat} {x1 x2 x3 : Int32} {M : am_M} {Q : Option Value → am_H → Prop} (h1 : vp_in x3 64) : am_Wp d 15 36 [.ref 50, .int x1, .int x2, .int x3] [] (hp nS M) Q = am_Wp d 15 45 [.ref 50, .int x1, .int 1, .int x3] [] (hp nS (am_up M 53 x3.toNatClampNeg x1)) Q := by
  refine (eq_run 4 (q := (42, [.ref 50, .int x1, .int x2, .int x3], [.int x1, .int x3, .ref 53], hp nS M)) (by with_unfolding_all rfl)).trans ?_
  refine (eq_ast (e := (.iastore, 1, 0, 0, 0)) (by with_unfolding_all rfl) rfl (n := 64) (by with_unfolding_all rfl) (by decide) h1).trans ?_
  exact eq_run 2 (q := (45, [.ref 50, .int x1, .int 1, .int x3], [], hp nS (am_up M 53 x3.toNatClampNeg x1))) (by with_unfolding_all rfl)
set_option maxRecDepth 20000 in
theorem b_15_45 {d nS : Nat} {x1 x2 x3 : Int32} {M : am_M} {Q : Option Value → am_H → Prop} : am_Wp d 15 45 [.ref 50, .int x1, .int x2, .int x3] [] (hp nS M) Q = am_Wp d 15 4 [.ref 50, .int x1, .int x2, .int (x3 + 1)] [] (hp nS M) Q := by
  exact eq_run 2 (q := (4, [.ref 50, .int x1, .int x2, .int (x3 + 1)], [], hp nS M)) (by with_unfolding_all rfl)
set_option maxRecDepth 20000 in
theorem b_15_51 {d nS : Nat} {x1 x2 x3 : Int32} {M : am_M} {Q : Option Value → am_H → Prop} (h1 : am_rok .boolean x2 = true) : am_Wp d 15 51 [.ref 50, .int x1, .int x2, .int x3] [] (hp nS M) Q = Q (some (.int x2)) (hp nS M) := by
  refine (eq_run 1 (q := (52, [.ref 50, .int x1, .int x2, .int x3], [.int x2], hp nS M)) (by with_unfolding_all rfl)).trans ?_
  exact eq_retI2 (e := (.ireturn, 1, 0, 0, 0)) (t := .boolean) (by with_unfolding_all rfl) rfl (by with_unfolding_all rfl) h1
-- LarkExchange$Heath catches(III)Z (16, (50, None, None, None))
set_option maxRecDepth 20000 in
theorem b_16_0 {d nS : Nat} {x1 x2 x3 : Int32} {M : am_M} {Q : Option Value → am_H → Prop} : am_Wp d 16 0 [.ref 50, .int x1, .int x2, .int x3, .retAddr 0] [] (hp nS M) Q = am_Wp d 16 3 [.ref 50, .int x1, .int x2, .int x3, .int 0] [] (hp nS M) Q := by
  exact eq_run 2 (q := (3, [.ref 50, .int x1, .int x2, .int x3, .int 0], [], hp nS M)) (by with_unfolding_all rfl)
set_option maxRecDepth 20000 in
theorem b_16_3 {d nS : Nat} {x1 x2 x3 x4 : Int32} {M : am_M} {Q : Option Value → am_H → Prop} : am_Wp d 16 3 [.ref 50, .int x1, .int x2, .int x3, .int x4] [] (hp nS M) Q = if 8 ≤ x4 then am_Wp d 16 50 [.ref 50, .int x1, .int x2, .int x3, .int x4] [] (hp nS M) Q else am_Wp d 16 10 [.ref 50, .int x1, .int x2, .int x3, .int x4] [] (hp nS M) Q := by
  refine (eq_run 2 (q := (7, [.ref 50, .int x1, .int x2, .int x3, .int x4], [.int 8, .int x4], hp nS M)) (by with_unfolding_all rfl)).trans ?_
  exact eq_cmp_ge (by with_unfolding_all rfl)
set_option maxRecDepth 20000 in
theorem b_16_10 {d nS : Nat} {x1 x2 x3 x4 : Int32} {M : am_M} {Q : Option Value → am_H → Prop} (h1 : vp_in x1 8) : am_Wp d 16 10 [.ref 50, .int x1, .int x2, .int x3, .int x4] [] (hp nS M) Q = if ¬ (((M 52 x1.toNatClampNeg) >>> (x4 &&& 31)) &&& 1) = 1 then am_Wp d 16 44 [.ref 50, .int x1, .int x2, .int x3, .int x4] [] (hp nS M) Q else am_Wp d 16 25 [.ref 50, .int x1, .int x2, .int x3, .int x4] [] (hp nS M) Q := by
  refine (eq_run 3 (q := (15, [.ref 50, .int x1, .int x2, .int x3, .int x4], [.int x1, .ref 52], hp nS M)) (by with_unfolding_all rfl)).trans ?_
  refine (eq_ald (e := (.iaload, 1, 0, 0, 0)) (by with_unfolding_all rfl) rfl (n := 8) (by with_unfolding_all rfl) h1).trans ?_
  refine (eq_run 5 (q := (22, [.ref 50, .int x1, .int x2, .int x3, .int x4], [.int 1, .int (((M 52 x1.toNatClampNeg) >>> (x4 &&& 31)) &&& 1)], hp nS M)) (by with_unfolding_all rfl)).trans ?_
  exact eq_cmp_ne (by with_unfolding_all rfl)
set_option maxRecDepth 20000 in
theorem b_16_25 {d nS : Nat} {x1 x2 x3 x4 : Int32} {M : am_M} {Q : Option Value → am_H → Prop} : am_Wp d 16 25 [.ref 50, .int x1, .int x2, .int x3, .int x4] [] (hp nS M) Q = if x4 = x2 then am_Wp d 16 42 [.ref 50, .int x1, .int x2, .int x3, .int x4] [] (hp nS M) Q else am_Wp d 16 31 [.ref 50, .int x1, .int x2, .int x3, .int x4] [] (hp nS M) Q := by
  refine (eq_run 2 (q := (28, [.ref 50, .int x1, .int x2, .int x3, .int x4], [.int x2, .int x4], hp nS M)) (by with_unfolding_all rfl)).trans ?_
  exact eq_cmp_eq (by with_unfolding_all rfl)
set_option maxRecDepth 20000 in
theorem b_16_31 {d nS : Nat} {x1 x2 x3 x4 : Int32} {M : am_M} {Q : Option Value → am_H → Prop} : am_Wp (d + 1) 16 31 [.ref 50, .int x1, .int x2, .int x3, .int x4] [] (hp nS M) Q = am_Wp d 17 0 [.ref 50, .int x4, .int x2, .int x3, .retAddr 0, .retAddr 0] [] (hp nS M) (fun v h1 => am_Wp (d + 1) 16 39 [.ref 50, .int x1, .int x2, .int x3, .int x4] (am_ans v []) h1 Q) := by
  refine (eq_run 4 (q := (36, [.ref 50, .int x1, .int x2, .int x3, .int x4], [.int x3, .int x2, .int x4, .ref 50], hp nS M)) (by with_unfolding_all rfl)).trans ?_
  exact eq_call2 (e := (.invokevirtual 43, 3, 0, 17, 81)) (as := [.ref 50, .int x4, .int x2, .int x3]) (r := []) (n := 4) (m := 6) (by with_unfolding_all rfl) rfl (by decide) (by with_unfolding_all rfl) (by decide) (by with_unfolding_all rfl) ⟨fun _ => am_rec_ok (c := 4) (by with_unfolding_all rfl) (by decide +kernel), fun z => by simp at z⟩
set_option maxRecDepth 20000 in
theorem b_16_39 {d nS : Nat} {x1 x2 x3 x4 s0 : Int32} {M : am_M} {Q : Option Value → am_H → Prop} : am_Wp d 16 39 [.ref 50, .int x1, .int x2, .int x3, .int x4] [.int s0] (hp nS M) Q = if s0 = 0 then am_Wp d 16 44 [.ref 50, .int x1, .int x2, .int x3, .int x4] [] (hp nS M) Q else am_Wp d 16 42 [.ref 50, .int x1, .int x2, .int x3, .int x4] [] (hp nS M) Q := by
  exact eq_if_eq (by with_unfolding_all rfl)
set_option maxRecDepth 20000 in
theorem b_16_42 {d nS : Nat} {x1 x2 x3 x4 : Int32} {M : am_M} {Q : Option Value → am_H → Prop} : am_Wp d 16 42 [.ref 50, .int x1, .int x2, .int x3, .int x4] [] (hp nS M) Q = Q (some (.int 1)) (hp nS M) := by
  refine (eq_run 1 (q := (43, [.ref 50, .int x1, .int x2, .int x3, .int x4], [.int 1], hp nS M)) (by with_unfolding_all rfl)).trans ?_
  exact eq_retI2 (e := (.ireturn, 1, 0, 0, 0)) (t := .boolean) (by with_unfolding_all rfl) rfl (by with_unfolding_all rfl) rfl
set_option maxRecDepth 20000 in
theorem b_16_44 {d nS : Nat} {x1 x2 x3 x4 : Int32} {M : am_M} {Q : Option Value → am_H → Prop} : am_Wp d 16 44 [.ref 50, .int x1, .int x2, .int x3, .int x4] [] (hp nS M) Q = am_Wp d 16 3 [.ref 50, .int x1, .int x2, .int x3, .int (x4 + 1)] [] (hp nS M) Q := by
  exact eq_run 2 (q := (3, [.ref 50, .int x1, .int x2, .int x3, .int (x4 + 1)], [], hp nS M)) (by with_unfolding_all rfl)
set_option maxRecDepth 20000 in
theorem b_16_50 {d nS : Nat} {x1 x2 x3 x4 : Int32} {M : am_M} {Q : Option Value → am_H → Prop} : am_Wp d 16 50 [.ref 50, .int x1, .int x2, .int x3, .int x4] [] (hp nS M) Q = Q (some (.int 0)) (hp nS M) := by
  refine (eq_run 1 (q := (51, [.ref 50, .int x1, .int x2, .int x3, .int x4], [.int 0], hp nS M)) (by with_unfolding_all rfl)).trans ?_
  exact eq_retI2 (e := (.ireturn, 1, 0, 0, 0)) (t := .boolean) (by with_unfolding_all rfl) rfl (by with_unfolding_all rfl) rfl
-- LarkExchange$Heath isHopeless(III)Z (17, (50, None, None, None))
set_option maxRecDepth 20000 in
theorem b_17_0 {d nS : Nat} {x1 x2 x3 : Int32} {M : am_M} {Q : Option Value → am_H → Prop} : am_Wp d 17 0 [.ref 50, .int x1, .int x2, .int x3, .retAddr 0, .retAddr 0] [] (hp nS M) Q = am_Wp d 17 3 [.ref 50, .int x1, .int x2, .int x3, .int 0, .retAddr 0] [] (hp nS M) Q := by
  exact eq_run 2 (q := (3, [.ref 50, .int x1, .int x2, .int x3, .int 0, .retAddr 0], [], hp nS M)) (by with_unfolding_all rfl)
set_option maxRecDepth 20000 in
theorem b_17_3 {d nS : Nat} {x1 x2 x3 x4 : Int32} {zx5 : Value} {M : am_M} {Q : Option Value → am_H → Prop} : am_Wp d 17 3 [.ref 50, .int x1, .int x2, .int x3, .int x4, zx5] [] (hp nS M) Q = if 8 ≤ x4 then am_Wp d 17 59 [.ref 50, .int x1, .int x2, .int x3, .int x4, zx5] [] (hp nS M) Q else am_Wp d 17 10 [.ref 50, .int x1, .int x2, .int x3, .int x4, zx5] [] (hp nS M) Q := by
  refine (eq_run 2 (q := (7, [.ref 50, .int x1, .int x2, .int x3, .int x4, zx5], [.int 8, .int x4], hp nS M)) (by with_unfolding_all rfl)).trans ?_
  exact eq_cmp_ge (by with_unfolding_all rfl)
set_option maxRecDepth 20000 in
theorem b_17_10 {d nS : Nat} {x1 x2 x3 x4 : Int32} {zx5 : Value} {M : am_M} {Q : Option Value → am_H → Prop} (h1 : vp_in ((x1 * 8) + x4) 64) (h2 : vp_in x2 8) : am_Wp d 17 10 [.ref 50, .int x1, .int x2, .int x3, .int x4, zx5] [] (hp nS M) Q = if ¬ (((M 52 x2.toNatClampNeg) >>> (x4 &&& 31)) &&& 1) = 1 then am_Wp d 17 53 [.ref 50, .int x1, .int x2, .int x3, .int x4, .int (M 53 ((x1 * 8) + x4).toNatClampNeg)] [] (hp nS M) Q else am_Wp d 17 39 [.ref 50, .int x1, .int x2, .int x3, .int x4, .int (M 53 ((x1 * 8) + x4).toNatClampNeg)] [] (hp nS M) Q := by
  refine (eq_run 7 (q := (21, [.ref 50, .int x1, .int x2, .int x3, .int x4, zx5], [.int ((x1 * 8) + x4), .ref 53], hp nS M)) (by with_unfolding_all rfl)).trans ?_
  refine (eq_ald (e := (.iaload, 1, 0, 0, 0)) (by with_unfolding_all rfl) rfl (n := 64) (by with_unfolding_all rfl) h1).trans ?_
  refine (eq_run 4 (q := (29, [.ref 50, .int x1, .int x2, .int x3, .int x4, .int (M 53 ((x1 * 8) + x4).toNatClampNeg)], [.int x2, .ref 52], hp nS M)) (by with_unfolding_all rfl)).trans ?_
  refine (eq_ald (e := (.iaload, 1, 0, 0, 0)) (by with_unfolding_all rfl) rfl (n := 8) (by with_unfolding_all rfl) h2).trans ?_
  refine (eq_run 5 (q := (36, [.ref 50, .int x1, .int x2, .int x3, .int x4, .int (M 53 ((x1 * 8) + x4).toNatClampNeg)], [.int 1, .int (((M 52 x2.toNatClampNeg) >>> (x4 &&& 31)) &&& 1)], hp nS M)) (by with_unfolding_all rfl)).trans ?_
  exact eq_cmp_ne (by with_unfolding_all rfl)
set_option maxRecDepth 20000 in
theorem b_17_39 {d nS : Nat} {x1 x2 x3 x4 x5 : Int32} {M : am_M} {Q : Option Value → am_H → Prop} : am_Wp d 17 39 [.ref 50, .int x1, .int x2, .int x3, .int x4, .int x5] [] (hp nS M) Q = if x5 = (-1) then am_Wp d 17 51 [.ref 50, .int x1, .int x2, .int x3, .int x4, .int x5] [] (hp nS M) Q else am_Wp d 17 45 [.ref 50, .int x1, .int x2, .int x3, .int x4, .int x5] [] (hp nS M) Q := by
  refine (eq_run 2 (q := (42, [.ref 50, .int x1, .int x2, .int x3, .int x4, .int x5], [.int (-1), .int x5], hp nS M)) (by with_unfolding_all rfl)).trans ?_
  exact eq_cmp_eq (by with_unfolding_all rfl)
set_option maxRecDepth 20000 in
theorem b_17_45 {d nS : Nat} {x1 x2 x3 x4 x5 : Int32} {M : am_M} {Q : Option Value → am_H → Prop} : am_Wp d 17 45 [.ref 50, .int x1, .int x2, .int x3, .int x4, .int x5] [] (hp nS M) Q = if x5 < x3 then am_Wp d 17 53 [.ref 50, .int x1, .int x2, .int x3, .int x4, .int x5] [] (hp nS M) Q else am_Wp d 17 51 [.ref 50, .int x1, .int x2, .int x3, .int x4, .int x5] [] (hp nS M) Q := by
  refine (eq_run 2 (q := (48, [.ref 50, .int x1, .int x2, .int x3, .int x4, .int x5], [.int x3, .int x5], hp nS M)) (by with_unfolding_all rfl)).trans ?_
  exact eq_cmp_lt (by with_unfolding_all rfl)
set_option maxRecDepth 20000 in
theorem b_17_51 {d nS : Nat} {x1 x2 x3 x4 x5 : Int32} {M : am_M} {Q : Option Value → am_H → Prop} : am_Wp d 17 51 [.ref 50, .int x1, .int x2, .int x3, .int x4, .int x5] [] (hp nS M) Q = Q (some (.int 0)) (hp nS M) := by
  refine (eq_run 1 (q := (52, [.ref 50, .int x1, .int x2, .int x3, .int x4, .int x5], [.int 0], hp nS M)) (by with_unfolding_all rfl)).trans ?_
  exact eq_retI2 (e := (.ireturn, 1, 0, 0, 0)) (t := .boolean) (by with_unfolding_all rfl) rfl (by with_unfolding_all rfl) rfl
set_option maxRecDepth 20000 in
theorem b_17_53 {d nS : Nat} {x1 x2 x3 x4 x5 : Int32} {M : am_M} {Q : Option Value → am_H → Prop} : am_Wp d 17 53 [.ref 50, .int x1, .int x2, .int x3, .int x4, .int x5] [] (hp nS M) Q = am_Wp d 17 3 [.ref 50, .int x1, .int x2, .int x3, .int (x4 + 1), .int x5] [] (hp nS M) Q := by
  exact eq_run 2 (q := (3, [.ref 50, .int x1, .int x2, .int x3, .int (x4 + 1), .int x5], [], hp nS M)) (by with_unfolding_all rfl)
set_option maxRecDepth 20000 in
theorem b_17_59 {d nS : Nat} {x1 x2 x3 x4 : Int32} {zx5 : Value} {M : am_M} {Q : Option Value → am_H → Prop} : am_Wp d 17 59 [.ref 50, .int x1, .int x2, .int x3, .int x4, zx5] [] (hp nS M) Q = Q (some (.int 1)) (hp nS M) := by
  refine (eq_run 1 (q := (60, [.ref 50, .int x1, .int x2, .int x3, .int x4, zx5], [.int 1], hp nS M)) (by with_unfolding_all rfl)).trans ?_
  exact eq_retI2 (e := (.ireturn, 1, 0, 0, 0)) (t := .boolean) (by with_unfolding_all rfl) rfl (by with_unfolding_all rfl) rfl
-- LarkExchange$Heath copyFrom(LLarkExchange$Heath;)V (18, (92, 50))
set_option maxRecDepth 20000 in
theorem b_18_0 {d nS : Nat} {M : am_M} {Q : Option Value → am_H → Prop} : am_Wp (d + 1) 18 0 [.ref 92, .ref 50] [] (hp nS M) Q = am_Wp d 131 0 [.ref 51, .ref 93] [] (hp nS M) (fun v h1 => am_Wp (d + 1) 18 11 [.ref 92, .ref 50] (am_ans v []) h1 Q) := by
  refine (eq_run 4 (q := (8, [.ref 92, .ref 50], [.ref 93, .ref 51], hp nS M)) (by with_unfolding_all rfl)).trans ?_
  exact eq_call2 (e := (.invokestatic 21, 3, 3, 131, 76)) (as := [.ref 51, .ref 93]) (r := []) (n := 2) (m := 2) (by with_unfolding_all rfl) rfl (by decide) (by with_unfolding_all rfl) (by decide) (by with_unfolding_all rfl) ⟨fun z => absurd z (by decide), fun z => by simp at z⟩
set_option maxRecDepth 20000 in
theorem b_18_11 {d nS : Nat} {M : am_M} {Q : Option Value → am_H → Prop} : am_Wp d 18 11 [.ref 92, .ref 50] [] (hp nS M) Q = Q none (hp nS (am_up M 92 1 (M 50 1))) := by
  refine (eq_run 4 (q := (19, [.ref 92, .ref 50], [], hp nS (am_up M 92 1 (M 50 1)))) (by with_unfolding_all rfl)).trans ?_
  exact eq_retV2 (e := (.return_, 1, 0, 0, 0)) (by with_unfolding_all rfl) rfl (by with_unfolding_all rfl)
-- LarkExchange$Heath copyFrom(LLarkExchange$Heath;)V (18, (50, 92))
set_option maxRecDepth 20000 in
theorem b_18i1_0 {d nS : Nat} {M : am_M} {Q : Option Value → am_H → Prop} : am_Wp (d + 1) 18 0 [.ref 50, .ref 92] [] (hp nS M) Q = am_Wp d 131 0 [.ref 93, .ref 51] [] (hp nS M) (fun v h1 => am_Wp (d + 1) 18 11 [.ref 50, .ref 92] (am_ans v []) h1 Q) := by
  refine (eq_run 4 (q := (8, [.ref 50, .ref 92], [.ref 51, .ref 93], hp nS M)) (by with_unfolding_all rfl)).trans ?_
  exact eq_call2 (e := (.invokestatic 21, 3, 3, 131, 76)) (as := [.ref 93, .ref 51]) (r := []) (n := 2) (m := 2) (by with_unfolding_all rfl) rfl (by decide) (by with_unfolding_all rfl) (by decide) (by with_unfolding_all rfl) ⟨fun z => absurd z (by decide), fun z => by simp at z⟩
set_option maxRecDepth 20000 in
theorem b_18i1_11 {d nS : Nat} {M : am_M} {Q : Option Value → am_H → Prop} : am_Wp d 18 11 [.ref 50, .ref 92] [] (hp nS M) Q = Q none (hp nS (am_up M 50 1 (M 92 1))) := by
  refine (eq_run 4 (q := (19, [.ref 50, .ref 92], [], hp nS (am_up M 50 1 (M 92 1)))) (by with_unfolding_all rfl)).trans ?_
  exact eq_retV2 (e := (.return_, 1, 0, 0, 0)) (by with_unfolding_all rfl) rfl (by with_unfolding_all rfl)
-- LarkExchange$Law tells(ILLarkExchange$World;III)I (20, (31, None, 18, None, None, None))
set_option maxRecDepth 20000 in
theorem b_20_0 {d nS : Nat} {x1 x3 x4 x5 : Int32} {M : am_M} {Q : Option Value → am_H → Prop} : am_Wp d 20 0 [.ref 31, .int x1, .ref 18, .int x3, .int x4, .int x5, .retAddr 0, .retAddr 0] [] (hp nS M) Q = am_Wp d 20 6 [.ref 31, .int x1, .ref 18, .int x3, .int x4, .int x5, .int 0, .int 0] [] (hp nS M) Q := by
  exact eq_run 4 (q := (6, [.ref 31, .int x1, .ref 18, .int x3, .int x4, .int x5, .int 0, .int 0], [], hp nS M)) (by with_unfolding_all rfl)
set_option maxRecDepth 20000 in
theorem b_20_6 {d nS : Nat} {x1 x3 x4 x5 x6 x7 : Int32} {M : am_M} {Q : Option Value → am_H → Prop} : am_Wp d 20 6 [.ref 31, .int x1, .ref 18, .int x3, .int x4, .int x5, .int x6, .int x7] [] (hp nS M) Q = if (M 31 0) ≤ x7 then am_Wp d 20 114 [.ref 31, .int x1, .ref 18, .int x3, .int x4, .int x5, .int x6, .int x7] [] (hp nS M) Q else am_Wp d 20 15 [.ref 31, .int x1, .ref 18, .int x3, .int x4, .int x5, .int x6, .int x7] [] (hp nS M) Q := by
  refine (eq_run 3 (q := (12, [.ref 31, .int x1, .ref 18, .int x3, .int x4, .int x5, .int x6, .int x7], [.int (M 31 0), .int x7], hp nS M)) (by with_unfolding_all rfl)).trans ?_
  exact eq_cmp_ge (by with_unfolding_all rfl)
set_option maxRecDepth 20000 in
theorem b_20_15 {d nS : Nat} {x1 x3 x4 x5 x6 x7 : Int32} {M : am_M} {Q : Option Value → am_H → Prop} (h1 : vp_in x7 16) : am_Wp d 20 15 [.ref 31, .int x1, .ref 18, .int x3, .int x4, .int x5, .int x6, .int x7] [] (hp nS M) Q = if (M 32 x7.toNatClampNeg) = x1 then am_Wp d 20 29 [.ref 31, .int x1, .ref 18, .int x3, .int x4, .int x5, .int x6, .int x7] [] (hp nS M) Q else am_Wp d 20 26 [.ref 31, .int x1, .ref 18, .int x3, .int x4, .int x5, .int x6, .int x7] [] (hp nS M) Q := by
  refine (eq_run 3 (q := (21, [.ref 31, .int x1, .ref 18, .int x3, .int x4, .int x5, .int x6, .int x7], [.int x7, .ref 32], hp nS M)) (by with_unfolding_all rfl)).trans ?_
  refine (eq_ald (e := (.iaload, 1, 0, 0, 0)) (by with_unfolding_all rfl) rfl (n := 16) (by with_unfolding_all rfl) h1).trans ?_
  refine (eq_run 1 (q := (23, [.ref 31, .int x1, .ref 18, .int x3, .int x4, .int x5, .int x6, .int x7], [.int x1, .int (M 32 x7.toNatClampNeg)], hp nS M)) (by with_unfolding_all rfl)).trans ?_
  exact eq_cmp_eq (by with_unfolding_all rfl)
set_option maxRecDepth 20000 in
theorem b_20_26 {d nS : Nat} {x1 x3 x4 x5 x6 x7 : Int32} {M : am_M} {Q : Option Value → am_H → Prop} : am_Wp d 20 26 [.ref 31, .int x1, .ref 18, .int x3, .int x4, .int x5, .int x6, .int x7] [] (hp nS M) Q = am_Wp d 20 108 [.ref 31, .int x1, .ref 18, .int x3, .int x4, .int x5, .int x6, .int x7] [] (hp nS M) Q := by
  exact eq_run 1 (q := (108, [.ref 31, .int x1, .ref 18, .int x3, .int x4, .int x5, .int x6, .int x7], [], hp nS M)) (by with_unfolding_all rfl)
set_option maxRecDepth 20000 in
theorem b_20_29 {d nS : Nat} {x1 x3 x4 x5 x6 x7 : Int32} {M : am_M} {Q : Option Value → am_H → Prop} : am_Wp d 20 29 [.ref 31, .int x1, .ref 18, .int x3, .int x4, .int x5, .int x6, .int x7] [] (hp nS M) Q = if ¬ x6 = 0 then am_Wp d 20 47 [.ref 31, .int x1, .ref 18, .int x3, .int x4, .int x5, .int x6, .int x7] [] (hp nS M) Q else am_Wp d 20 34 [.ref 31, .int x1, .ref 18, .int x3, .int x4, .int x5, .int x6, .int x7] [] (hp nS M) Q := by
  refine (eq_run 1 (q := (31, [.ref 31, .int x1, .ref 18, .int x3, .int x4, .int x5, .int x6, .int x7], [.int x6], hp nS M)) (by with_unfolding_all rfl)).trans ?_
  exact eq_if_ne (by with_unfolding_all rfl)
set_option maxRecDepth 20000 in
theorem b_20_34 {d nS : Nat} {x1 x3 x4 x5 x6 x7 : Int32} {M : am_M} {Q : Option Value → am_H → Prop} : am_Wp (d + 1) 20 34 [.ref 31, .int x1, .ref 18, .int x3, .int x4, .int x5, .int x6, .int x7] [] (hp nS M) Q = am_Wp d 21 0 [.ref 31, .ref 18, .int x3, .int x4, .int x5, .retAddr 0] [] (hp nS M) (fun v h1 => am_Wp (d + 1) 20 44 [.ref 31, .int x1, .ref 18, .int x3, .int x4, .int x5, .int x6, .int x7] (am_ans v []) h1 Q) := by
  refine (eq_run 5 (q := (41, [.ref 31, .int x1, .ref 18, .int x3, .int x4, .int x5, .int x6, .int x7], [.int x5, .int x4, .int x3, .ref 18, .ref 31], hp nS M)) (by with_unfolding_all rfl)).trans ?_
  exact eq_call2 (e := (.invokevirtual 50, 3, 0, 21, 85)) (as := [.ref 31, .ref 18, .int x3, .int x4, .int x5]) (r := []) (n := 5) (m := 6) (by with_unfolding_all rfl) rfl (by decide) (by with_unfolding_all rfl) (by decide) (by with_unfolding_all rfl) ⟨fun _ => am_rec_ok (c := 5) (by with_unfolding_all rfl) (by decide +kernel), fun z => by simp at z⟩
set_option maxRecDepth 20000 in
theorem b_20_44 {d nS : Nat} {x1 x3 x4 x5 x6 x7 : Int32} {M : am_M} {Q : Option Value → am_H → Prop} : am_Wp d 20 44 [.ref 31, .int x1, .ref 18, .int x3, .int x4, .int x5, .int x6, .int x7] [] (hp nS M) Q = am_Wp d 20 47 [.ref 31, .int x1, .ref 18, .int x3, .int x4, .int x5, .int 1, .int x7] [] (hp nS M) Q := by
  exact eq_run 2 (q := (47, [.ref 31, .int x1, .ref 18, .int x3, .int x4, .int x5, .int 1, .int x7], [], hp nS M)) (by with_unfolding_all rfl)
set_option maxRecDepth 20000 in
theorem b_20_47 {d nS : Nat} {x1 x3 x4 x5 x6 x7 : Int32} {M : am_M} {Q : Option Value → am_H → Prop} (h1 : vp_in x7 16) (h2 : vp_in x7 16) : am_Wp d 20 47 [.ref 31, .int x1, .ref 18, .int x3, .int x4, .int x5, .int x6, .int x7] [] (hp nS M) Q = if (M 34 x7.toNatClampNeg) = (M 35 x7.toNatClampNeg) then am_Wp d 20 85 [.ref 31, .int x1, .ref 18, .int x3, .int x4, .int x5, .int x6, .int x7] [] (hp nS M) Q else am_Wp d 20 64 [.ref 31, .int x1, .ref 18, .int x3, .int x4, .int x5, .int x6, .int x7] [] (hp nS M) Q := by
  refine (eq_run 3 (q := (53, [.ref 31, .int x1, .ref 18, .int x3, .int x4, .int x5, .int x6, .int x7], [.int x7, .ref 34], hp nS M)) (by with_unfolding_all rfl)).trans ?_
  refine (eq_ald (e := (.iaload, 1, 0, 0, 0)) (by with_unfolding_all rfl) rfl (n := 16) (by with_unfolding_all rfl) h1).trans ?_
  refine (eq_run 3 (q := (60, [.ref 31, .int x1, .ref 18, .int x3, .int x4, .int x5, .int x6, .int x7], [.int x7, .ref 35, .int (M 34 x7.toNatClampNeg)], hp nS M)) (by with_unfolding_all rfl)).trans ?_
  refine (eq_ald (e := (.iaload, 1, 0, 0, 0)) (by with_unfolding_all rfl) rfl (n := 16) (by with_unfolding_all rfl) h2).trans ?_
  exact eq_cmp_eq (by with_unfolding_all rfl)
set_option maxRecDepth 20000 in
theorem b_20_64 {d nS : Nat} {x1 x3 x4 x5 x6 x7 : Int32} {M : am_M} {Q : Option Value → am_H → Prop} (h1 : vp_in x7 16) (h2 : vp_in x7 16) : am_Wp (d + 1) 20 64 [.ref 31, .int x1, .ref 18, .int x3, .int x4, .int x5, .int x6, .int x7] [] (hp nS M) Q = am_Wp d 22 0 [.ref 31, .int (M 34 x7.toNatClampNeg), .int (M 35 x7.toNatClampNeg), .retAddr 0, .retAddr 0, .retAddr 0, .retAddr 0, .retAddr 0] [] (hp nS M) (fun v h1 => am_Wp (d + 1) 20 82 [.ref 31, .int x1, .ref 18, .int x3, .int x4, .int x5, .int x6, .int x7] (am_ans v []) h1 Q) := by
  refine (eq_run 4 (q := (71, [.ref 31, .int x1, .ref 18, .int x3, .int x4, .int x5, .int x6, .int x7], [.int x7, .ref 34, .ref 31], hp nS M)) (by with_unfolding_all rfl)).trans ?_
  refine (eq_ald (e := (.iaload, 1, 0, 0, 0)) (by with_unfolding_all rfl) rfl (n := 16) (by with_unfolding_all rfl) h1).trans ?_
  refine (eq_run 3 (q := (78, [.ref 31, .int x1, .ref 18, .int x3, .int x4, .int x5, .int x6, .int x7], [.int x7, .ref 35, .int (M 34 x7.toNatClampNeg), .ref 31], hp nS M)) (by with_unfolding_all rfl)).trans ?_
  refine (eq_ald (e := (.iaload, 1, 0, 0, 0)) (by with_unfolding_all rfl) rfl (n := 16) (by with_unfolding_all rfl) h2).trans ?_
  exact eq_call2 (e := (.invokevirtual 54, 3, 0, 22, 86)) (as := [.ref 31, .int (M 34 x7.toNatClampNeg), .int (M 35 x7.toNatClampNeg)]) (r := []) (n := 3) (m := 8) (by with_unfolding_all rfl) rfl (by decide) (by with_unfolding_all rfl) (by decide) (by with_unfolding_all rfl) ⟨fun _ => am_rec_ok (c := 5) (by with_unfolding_all rfl) (by decide +kernel), fun z => by simp at z⟩
set_option maxRecDepth 20000 in
theorem b_20_82 {d nS : Nat} {x1 x3 x4 x5 x6 x7 s0 : Int32} {M : am_M} {Q : Option Value → am_H → Prop} : am_Wp d 20 82 [.ref 31, .int x1, .ref 18, .int x3, .int x4, .int x5, .int x6, .int x7] [.int s0] (hp nS M) Q = if s0 = 0 then am_Wp d 20 108 [.ref 31, .int x1, .ref 18, .int x3, .int x4, .int x5, .int x6, .int x7] [] (hp nS M) Q else am_Wp d 20 85 [.ref 31, .int x1, .ref 18, .int x3, .int x4, .int x5, .int x6, .int x7] [] (hp nS M) Q := by
  exact eq_if_eq (by with_unfolding_all rfl)
set_option maxRecDepth 20000 in
theorem b_20_85 {d nS : Nat} {x1 x3 x4 x5 x6 x7 : Int32} {M : am_M} {Q : Option Value → am_H → Prop} (h1 : vp_in x7 16) (h2 : vp_in x7 16) : am_Wp (d + 1) 20 85 [.ref 31, .int x1, .ref 18, .int x3, .int x4, .int x5, .int x6, .int x7] [] (hp nS M) Q = am_Wp d 22 0 [.ref 31, .int (M 33 x7.toNatClampNeg), .int (M 34 x7.toNatClampNeg), .retAddr 0, .retAddr 0, .retAddr 0, .retAddr 0, .retAddr 0] [] (hp nS M) (fun v h1 => am_Wp (d + 1) 20 104 [.ref 31, .int x1, .ref 18, .int x3, .int x4, .int x5, .int x6, .int x7] (am_ans v [.int x1]) h1 Q) := by
  refine (eq_run 5 (q := (93, [.ref 31, .int x1, .ref 18, .int x3, .int x4, .int x5, .int x6, .int x7], [.int x7, .ref 33, .ref 31, .int x1], hp nS M)) (by with_unfolding_all rfl)).trans ?_
  refine (eq_ald (e := (.iaload, 1, 0, 0, 0)) (by with_unfolding_all rfl) rfl (n := 16) (by with_unfolding_all rfl) h1).trans ?_
  refine (eq_run 3 (q := (100, [.ref 31, .int x1, .ref 18, .int x3, .int x4, .int x5, .int x6, .int x7], [.int x7, .ref 34, .int (M 33 x7.toNatClampNeg), .ref 31, .int x1], hp nS M)) (by with_unfolding_all rfl)).trans ?_
  refine (eq_ald (e := (.iaload, 1, 0, 0, 0)) (by with_unfolding_all rfl) rfl (n := 16) (by with_unfolding_all rfl) h2).trans ?_
  exact eq_call2 (e := (.invokevirtual 54, 3, 0, 22, 86)) (as := [.ref 31, .int (M 33 x7.toNatClampNeg), .int (M 34 x7.toNatClampNeg)]) (r := [.int x1]) (n := 3) (m := 8) (by with_unfolding_all rfl) rfl (by decide) (by with_unfolding_all rfl) (by decide) (by with_unfolding_all rfl) ⟨fun _ => am_rec_ok (c := 5) (by with_unfolding_all rfl) (by decide +kernel), fun z => by simp at z⟩
set_option maxRecDepth 20000 in
theorem b_20_104 {d nS : Nat} {x1 x3 x4 x5 x6 x7 s0 s1 : Int32} {M : am_M} {Q : Option Value → am_H → Prop} : am_Wp (d + 1) 20 104 [.ref 31, .int x1, .ref 18, .int x3, .int x4, .int x5, .int x6, .int x7] [.int s1, .int s0] (hp nS M) Q = am_Wp d 24 0 [.int s0, .int s1, .retAddr 0, .retAddr 0] [] (hp nS M) (fun v h1 => am_Wp (d + 1) 20 107 [.ref 31, .int x1, .ref 18, .int x3, .int x4, .int x5, .int x6, .int x7] (am_ans v []) h1 Q) := by
  exact eq_call2 (e := (.invokestatic 58, 3, 1, 24, 87)) (as := [.int s0, .int s1]) (r := []) (n := 2) (m := 4) (by with_unfolding_all rfl) rfl (by decide) (by with_unfolding_all rfl) (by decide) (by with_unfolding_all rfl) ⟨fun z => absurd z (by decide), fun z => by simp at z⟩
set_option maxRecDepth 20000 in
theorem b_20_107 {d nS : Nat} {x1 x3 x4 x5 x6 x7 s0 : Int32} {M : am_M} {Q : Option Value → am_H → Prop} : am_Wp d 20 107 [.ref 31, .int x1, .ref 18, .int x3, .int x4, .int x5, .int x6, .int x7] [.int s0] (hp nS M) Q = Q (some (.int s0)) (hp nS M) := by
  exact eq_retI2 (e := (.ireturn, 1, 0, 0, 0)) (t := .int) (by with_unfolding_all rfl) rfl (by with_unfolding_all rfl) rfl
set_option maxRecDepth 20000 in
theorem b_20_108 {d nS : Nat} {x1 x3 x4 x5 x6 x7 : Int32} {M : am_M} {Q : Option Value → am_H → Prop} : am_Wp d 20 108 [.ref 31, .int x1, .ref 18, .int x3, .int x4, .int x5, .int x6, .int x7] [] (hp nS M) Q = am_Wp d 20 6 [.ref 31, .int x1, .ref 18, .int x3, .int x4, .int x5, .int x6, .int (x7 + 1)] [] (hp nS M) Q := by
  exact eq_run 2 (q := (6, [.ref 31, .int x1, .ref 18, .int x3, .int x4, .int x5, .int x6, .int (x7 + 1)], [], hp nS M)) (by with_unfolding_all rfl)
set_option maxRecDepth 20000 in
theorem b_20_114 {d nS : Nat} {x1 x3 x4 x5 x6 x7 : Int32} {M : am_M} {Q : Option Value → am_H → Prop} : am_Wp (d + 1) 20 114 [.ref 31, .int x1, .ref 18, .int x3, .int x4, .int x5, .int x6, .int x7] [] (hp nS M) Q = am_Wp d 25 0 [.int x1, .ref 18, .int x3, .int x4, .retAddr 0, .retAddr 0] [] (hp nS M) (fun v h1 => am_Wp (d + 1) 20 123 [.ref 31, .int x1, .ref 18, .int x3, .int x4, .int x5, .int x6, .int x7] (am_ans v [.int x1]) h1 Q) := by
  refine (eq_run 5 (q := (120, [.ref 31, .int x1, .ref 18, .int x3, .int x4, .int x5, .int x6, .int x7], [.int x4, .int x3, .ref 18, .int x1, .int x1], hp nS M)) (by with_unfolding_all rfl)).trans ?_
  exact eq_call2 (e := (.invokestatic 61, 3, 1, 25, 88)) (as := [.int x1, .ref 18, .int x3, .int x4]) (r := [.int x1]) (n := 4) (m := 6) (by with_unfolding_all rfl) rfl (by decide) (by with_unfolding_all rfl) (by decide) (by with_unfolding_all rfl) ⟨fun z => absurd z (by decide), fun z => by simp at z⟩
set_option maxRecDepth 20000 in
theorem b_20_123 {d nS : Nat} {x1 x3 x4 x5 x6 x7 s0 s1 : Int32} {M : am_M} {Q : Option Value → am_H → Prop} : am_Wp (d + 1) 20 123 [.ref 31, .int x1, .ref 18, .int x3, .int x4, .int x5, .int x6, .int x7] [.int s1, .int s0] (hp nS M) Q = am_Wp d 24 0 [.int s0, .int s1, .retAddr 0, .retAddr 0] [] (hp nS M) (fun v h1 => am_Wp (d + 1) 20 126 [.ref 31, .int x1, .ref 18, .int x3, .int x4, .int x5, .int x6, .int x7] (am_ans v []) h1 Q) := by
  exact eq_call2 (e := (.invokestatic 58, 3, 1, 24, 87)) (as := [.int s0, .int s1]) (r := []) (n := 2) (m := 4) (by with_unfolding_all rfl) rfl (by decide) (by with_unfolding_all rfl) (by decide) (by with_unfolding_all rfl) ⟨fun z => absurd z (by decide), fun z => by simp at z⟩
set_option maxRecDepth 20000 in
theorem b_20_126 {d nS : Nat} {x1 x3 x4 x5 x6 x7 s0 : Int32} {M : am_M} {Q : Option Value → am_H → Prop} : am_Wp d 20 126 [.ref 31, .int x1, .ref 18, .int x3, .int x4, .int x5, .int x6, .int x7] [.int s0] (hp nS M) Q = Q (some (.int s0)) (hp nS M) := by
  exact eq_retI2 (e := (.ireturn, 1, 0, 0, 0)) (t := .int) (by with_unfolding_all rfl) rfl (by with_unfolding_all rfl) rfl
-- LarkExchange$Law tells(ILLarkExchange$World;III)I (20, (31, None, 101, None, None, None))
set_option maxRecDepth 20000 in
theorem b_20i1_0 {d nS : Nat} {x1 x3 x4 x5 : Int32} {M : am_M} {Q : Option Value → am_H → Prop} : am_Wp d 20 0 [.ref 31, .int x1, .ref 101, .int x3, .int x4, .int x5, .retAddr 0, .retAddr 0] [] (hp nS M) Q = am_Wp d 20 6 [.ref 31, .int x1, .ref 101, .int x3, .int x4, .int x5, .int 0, .int 0] [] (hp nS M) Q := by
  exact eq_run 4 (q := (6, [.ref 31, .int x1, .ref 101, .int x3, .int x4, .int x5, .int 0, .int 0], [], hp nS M)) (by with_unfolding_all rfl)
set_option maxRecDepth 20000 in
theorem b_20i1_6 {d nS : Nat} {x1 x3 x4 x5 x6 x7 : Int32} {M : am_M} {Q : Option Value → am_H → Prop} : am_Wp d 20 6 [.ref 31, .int x1, .ref 101, .int x3, .int x4, .int x5, .int x6, .int x7] [] (hp nS M) Q = if (M 31 0) ≤ x7 then am_Wp d 20 114 [.ref 31, .int x1, .ref 101, .int x3, .int x4, .int x5, .int x6, .int x7] [] (hp nS M) Q else am_Wp d 20 15 [.ref 31, .int x1, .ref 101, .int x3, .int x4, .int x5, .int x6, .int x7] [] (hp nS M) Q := by
  refine (eq_run 3 (q := (12, [.ref 31, .int x1, .ref 101, .int x3, .int x4, .int x5, .int x6, .int x7], [.int (M 31 0), .int x7], hp nS M)) (by with_unfolding_all rfl)).trans ?_
  exact eq_cmp_ge (by with_unfolding_all rfl)
set_option maxRecDepth 20000 in
theorem b_20i1_15 {d nS : Nat} {x1 x3 x4 x5 x6 x7 : Int32} {M : am_M} {Q : Option Value → am_H → Prop} (h1 : vp_in x7 16) : am_Wp d 20 15 [.ref 31, .int x1, .ref 101, .int x3, .int x4, .int x5, .int x6, .int x7] [] (hp nS M) Q = if (M 32 x7.toNatClampNeg) = x1 then am_Wp d 20 29 [.ref 31, .int x1, .ref 101, .int x3, .int x4, .int x5, .int x6, .int x7] [] (hp nS M) Q else am_Wp d 20 26 [.ref 31, .int x1, .ref 101, .int x3, .int x4, .int x5, .int x6, .int x7] [] (hp nS M) Q := by
  refine (eq_run 3 (q := (21, [.ref 31, .int x1, .ref 101, .int x3, .int x4, .int x5, .int x6, .int x7], [.int x7, .ref 32], hp nS M)) (by with_unfolding_all rfl)).trans ?_
  refine (eq_ald (e := (.iaload, 1, 0, 0, 0)) (by with_unfolding_all rfl) rfl (n := 16) (by with_unfolding_all rfl) h1).trans ?_
  refine (eq_run 1 (q := (23, [.ref 31, .int x1, .ref 101, .int x3, .int x4, .int x5, .int x6, .int x7], [.int x1, .int (M 32 x7.toNatClampNeg)], hp nS M)) (by with_unfolding_all rfl)).trans ?_
  exact eq_cmp_eq (by with_unfolding_all rfl)
set_option maxRecDepth 20000 in
theorem b_20i1_26 {d nS : Nat} {x1 x3 x4 x5 x6 x7 : Int32} {M : am_M} {Q : Option Value → am_H → Prop} : am_Wp d 20 26 [.ref 31, .int x1, .ref 101, .int x3, .int x4, .int x5, .int x6, .int x7] [] (hp nS M) Q = am_Wp d 20 108 [.ref 31, .int x1, .ref 101, .int x3, .int x4, .int x5, .int x6, .int x7] [] (hp nS M) Q := by
  exact eq_run 1 (q := (108, [.ref 31, .int x1, .ref 101, .int x3, .int x4, .int x5, .int x6, .int x7], [], hp nS M)) (by with_unfolding_all rfl)
set_option maxRecDepth 20000 in
theorem b_20i1_29 {d nS : Nat} {x1 x3 x4 x5 x6 x7 : Int32} {M : am_M} {Q : Option Value → am_H → Prop} : am_Wp d 20 29 [.ref 31, .int x1, .ref 101, .int x3, .int x4, .int x5, .int x6, .int x7] [] (hp nS M) Q = if ¬ x6 = 0 then am_Wp d 20 47 [.ref 31, .int x1, .ref 101, .int x3, .int x4, .int x5, .int x6, .int x7] [] (hp nS M) Q else am_Wp d 20 34 [.ref 31, .int x1, .ref 101, .int x3, .int x4, .int x5, .int x6, .int x7] [] (hp nS M) Q := by
  refine (eq_run 1 (q := (31, [.ref 31, .int x1, .ref 101, .int x3, .int x4, .int x5, .int x6, .int x7], [.int x6], hp nS M)) (by with_unfolding_all rfl)).trans ?_
  exact eq_if_ne (by with_unfolding_all rfl)
set_option maxRecDepth 20000 in
theorem b_20i1_34 {d nS : Nat} {x1 x3 x4 x5 x6 x7 : Int32} {M : am_M} {Q : Option Value → am_H → Prop} : am_Wp (d + 1) 20 34 [.ref 31, .int x1, .ref 101, .int x3, .int x4, .int x5, .int x6, .int x7] [] (hp nS M) Q = am_Wp d 21 0 [.ref 31, .ref 101, .int x3, .int x4, .int x5, .retAddr 0] [] (hp nS M) (fun v h1 => am_Wp (d + 1) 20 44 [.ref 31, .int x1, .ref 101, .int x3, .int x4, .int x5, .int x6, .int x7] (am_ans v []) h1 Q) := by
  refine (eq_run 5 (q := (41, [.ref 31, .int x1, .ref 101, .int x3, .int x4, .int x5, .int x6, .int x7], [.int x5, .int x4, .int x3, .ref 101, .ref 31], hp nS M)) (by with_unfolding_all rfl)).trans ?_
  exact eq_call2 (e := (.invokevirtual 50, 3, 0, 21, 85)) (as := [.ref 31, .ref 101, .int x3, .int x4, .int x5]) (r := []) (n := 5) (m := 6) (by with_unfolding_all rfl) rfl (by decide) (by with_unfolding_all rfl) (by decide) (by with_unfolding_all rfl) ⟨fun _ => am_rec_ok (c := 5) (by with_unfolding_all rfl) (by decide +kernel), fun z => by simp at z⟩
set_option maxRecDepth 20000 in
theorem b_20i1_44 {d nS : Nat} {x1 x3 x4 x5 x6 x7 : Int32} {M : am_M} {Q : Option Value → am_H → Prop} : am_Wp d 20 44 [.ref 31, .int x1, .ref 101, .int x3, .int x4, .int x5, .int x6, .int x7] [] (hp nS M) Q = am_Wp d 20 47 [.ref 31, .int x1, .ref 101, .int x3, .int x4, .int x5, .int 1, .int x7] [] (hp nS M) Q := by
  exact eq_run 2 (q := (47, [.ref 31, .int x1, .ref 101, .int x3, .int x4, .int x5, .int 1, .int x7], [], hp nS M)) (by with_unfolding_all rfl)
set_option maxRecDepth 20000 in
theorem b_20i1_47 {d nS : Nat} {x1 x3 x4 x5 x6 x7 : Int32} {M : am_M} {Q : Option Value → am_H → Prop} (h1 : vp_in x7 16) (h2 : vp_in x7 16) : am_Wp d 20 47 [.ref 31, .int x1, .ref 101, .int x3, .int x4, .int x5, .int x6, .int x7] [] (hp nS M) Q = if (M 34 x7.toNatClampNeg) = (M 35 x7.toNatClampNeg) then am_Wp d 20 85 [.ref 31, .int x1, .ref 101, .int x3, .int x4, .int x5, .int x6, .int x7] [] (hp nS M) Q else am_Wp d 20 64 [.ref 31, .int x1, .ref 101, .int x3, .int x4, .int x5, .int x6, .int x7] [] (hp nS M) Q := by
  refine (eq_run 3 (q := (53, [.ref 31, .int x1, .ref 101, .int x3, .int x4, .int x5, .int x6, .int x7], [.int x7, .ref 34], hp nS M)) (by with_unfolding_all rfl)).trans ?_
  refine (eq_ald (e := (.iaload, 1, 0, 0, 0)) (by with_unfolding_all rfl) rfl (n := 16) (by with_unfolding_all rfl) h1).trans ?_
  refine (eq_run 3 (q := (60, [.ref 31, .int x1, .ref 101, .int x3, .int x4, .int x5, .int x6, .int x7], [.int x7, .ref 35, .int (M 34 x7.toNatClampNeg)], hp nS M)) (by with_unfolding_all rfl)).trans ?_
  refine (eq_ald (e := (.iaload, 1, 0, 0, 0)) (by with_unfolding_all rfl) rfl (n := 16) (by with_unfolding_all rfl) h2).trans ?_
  exact eq_cmp_eq (by with_unfolding_all rfl)
set_option maxRecDepth 20000 in
theorem b_20i1_64 {d nS : Nat} {x1 x3 x4 x5 x6 x7 : Int32} {M : am_M} {Q : Option Value → am_H → Prop} (h1 : vp_in x7 16) (h2 : vp_in x7 16) : am_Wp (d + 1) 20 64 [.ref 31, .int x1, .ref 101, .int x3, .int x4, .int x5, .int x6, .int x7] [] (hp nS M) Q = am_Wp d 22 0 [.ref 31, .int (M 34 x7.toNatClampNeg), .int (M 35 x7.toNatClampNeg), .retAddr 0, .retAddr 0, .retAddr 0, .retAddr 0, .retAddr 0] [] (hp nS M) (fun v h1 => am_Wp (d + 1) 20 82 [.ref 31, .int x1, .ref 101, .int x3, .int x4, .int x5, .int x6, .int x7] (am_ans v []) h1 Q) := by
  refine (eq_run 4 (q := (71, [.ref 31, .int x1, .ref 101, .int x3, .int x4, .int x5, .int x6, .int x7], [.int x7, .ref 34, .ref 31], hp nS M)) (by with_unfolding_all rfl)).trans ?_
  refine (eq_ald (e := (.iaload, 1, 0, 0, 0)) (by with_unfolding_all rfl) rfl (n := 16) (by with_unfolding_all rfl) h1).trans ?_
  refine (eq_run 3 (q := (78, [.ref 31, .int x1, .ref 101, .int x3, .int x4, .int x5, .int x6, .int x7], [.int x7, .ref 35, .int (M 34 x7.toNatClampNeg), .ref 31], hp nS M)) (by with_unfolding_all rfl)).trans ?_
  refine (eq_ald (e := (.iaload, 1, 0, 0, 0)) (by with_unfolding_all rfl) rfl (n := 16) (by with_unfolding_all rfl) h2).trans ?_
  exact eq_call2 (e := (.invokevirtual 54, 3, 0, 22, 86)) (as := [.ref 31, .int (M 34 x7.toNatClampNeg), .int (M 35 x7.toNatClampNeg)]) (r := []) (n := 3) (m := 8) (by with_unfolding_all rfl) rfl (by decide) (by with_unfolding_all rfl) (by decide) (by with_unfolding_all rfl) ⟨fun _ => am_rec_ok (c := 5) (by with_unfolding_all rfl) (by decide +kernel), fun z => by simp at z⟩
set_option maxRecDepth 20000 in
theorem b_20i1_82 {d nS : Nat} {x1 x3 x4 x5 x6 x7 s0 : Int32} {M : am_M} {Q : Option Value → am_H → Prop} : am_Wp d 20 82 [.ref 31, .int x1, .ref 101, .int x3, .int x4, .int x5, .int x6, .int x7] [.int s0] (hp nS M) Q = if s0 = 0 then am_Wp d 20 108 [.ref 31, .int x1, .ref 101, .int x3, .int x4, .int x5, .int x6, .int x7] [] (hp nS M) Q else am_Wp d 20 85 [.ref 31, .int x1, .ref 101, .int x3, .int x4, .int x5, .int x6, .int x7] [] (hp nS M) Q := by
  exact eq_if_eq (by with_unfolding_all rfl)
set_option maxRecDepth 20000 in
theorem b_20i1_85 {d nS : Nat} {x1 x3 x4 x5 x6 x7 : Int32} {M : am_M} {Q : Option Value → am_H → Prop} (h1 : vp_in x7 16) (h2 : vp_in x7 16) : am_Wp (d + 1) 20 85 [.ref 31, .int x1, .ref 101, .int x3, .int x4, .int x5, .int x6, .int x7] [] (hp nS M) Q = am_Wp d 22 0 [.ref 31, .int (M 33 x7.toNatClampNeg), .int (M 34 x7.toNatClampNeg), .retAddr 0, .retAddr 0, .retAddr 0, .retAddr 0, .retAddr 0] [] (hp nS M) (fun v h1 => am_Wp (d + 1) 20 104 [.ref 31, .int x1, .ref 101, .int x3, .int x4, .int x5, .int x6, .int x7] (am_ans v [.int x1]) h1 Q) := by
  refine (eq_run 5 (q := (93, [.ref 31, .int x1, .ref 101, .int x3, .int x4, .int x5, .int x6, .int x7], [.int x7, .ref 33, .ref 31, .int x1], hp nS M)) (by with_unfolding_all rfl)).trans ?_
  refine (eq_ald (e := (.iaload, 1, 0, 0, 0)) (by with_unfolding_all rfl) rfl (n := 16) (by with_unfolding_all rfl) h1).trans ?_
  refine (eq_run 3 (q := (100, [.ref 31, .int x1, .ref 101, .int x3, .int x4, .int x5, .int x6, .int x7], [.int x7, .ref 34, .int (M 33 x7.toNatClampNeg), .ref 31, .int x1], hp nS M)) (by with_unfolding_all rfl)).trans ?_
  refine (eq_ald (e := (.iaload, 1, 0, 0, 0)) (by with_unfolding_all rfl) rfl (n := 16) (by with_unfolding_all rfl) h2).trans ?_
  exact eq_call2 (e := (.invokevirtual 54, 3, 0, 22, 86)) (as := [.ref 31, .int (M 33 x7.toNatClampNeg), .int (M 34 x7.toNatClampNeg)]) (r := [.int x1]) (n := 3) (m := 8) (by with_unfolding_all rfl) rfl (by decide) (by with_unfolding_all rfl) (by decide) (by with_unfolding_all rfl) ⟨fun _ => am_rec_ok (c := 5) (by with_unfolding_all rfl) (by decide +kernel), fun z => by simp at z⟩
set_option maxRecDepth 20000 in
theorem b_20i1_104 {d nS : Nat} {x1 x3 x4 x5 x6 x7 s0 s1 : Int32} {M : am_M} {Q : Option Value → am_H → Prop} : am_Wp (d + 1) 20 104 [.ref 31, .int x1, .ref 101, .int x3, .int x4, .int x5, .int x6, .int x7] [.int s1, .int s0] (hp nS M) Q = am_Wp d 24 0 [.int s0, .int s1, .retAddr 0, .retAddr 0] [] (hp nS M) (fun v h1 => am_Wp (d + 1) 20 107 [.ref 31, .int x1, .ref 101, .int x3, .int x4, .int x5, .int x6, .int x7] (am_ans v []) h1 Q) := by
  exact eq_call2 (e := (.invokestatic 58, 3, 1, 24, 87)) (as := [.int s0, .int s1]) (r := []) (n := 2) (m := 4) (by with_unfolding_all rfl) rfl (by decide) (by with_unfolding_all rfl) (by decide) (by with_unfolding_all rfl) ⟨fun z => absurd z (by decide), fun z => by simp at z⟩
set_option maxRecDepth 20000 in
theorem b_20i1_107 {d nS : Nat} {x1 x3 x4 x5 x6 x7 s0 : Int32} {M : am_M} {Q : Option Value → am_H → Prop} : am_Wp d 20 107 [.ref 31, .int x1, .ref 101, .int x3, .int x4, .int x5, .int x6, .int x7] [.int s0] (hp nS M) Q = Q (some (.int s0)) (hp nS M) := by
  exact eq_retI2 (e := (.ireturn, 1, 0, 0, 0)) (t := .int) (by with_unfolding_all rfl) rfl (by with_unfolding_all rfl) rfl
set_option maxRecDepth 20000 in
theorem b_20i1_108 {d nS : Nat} {x1 x3 x4 x5 x6 x7 : Int32} {M : am_M} {Q : Option Value → am_H → Prop} : am_Wp d 20 108 [.ref 31, .int x1, .ref 101, .int x3, .int x4, .int x5, .int x6, .int x7] [] (hp nS M) Q = am_Wp d 20 6 [.ref 31, .int x1, .ref 101, .int x3, .int x4, .int x5, .int x6, .int (x7 + 1)] [] (hp nS M) Q := by
  exact eq_run 2 (q := (6, [.ref 31, .int x1, .ref 101, .int x3, .int x4, .int x5, .int x6, .int (x7 + 1)], [], hp nS M)) (by with_unfolding_all rfl)
set_option maxRecDepth 20000 in
theorem b_20i1_114 {d nS : Nat} {x1 x3 x4 x5 x6 x7 : Int32} {M : am_M} {Q : Option Value → am_H → Prop} : am_Wp (d + 1) 20 114 [.ref 31, .int x1, .ref 101, .int x3, .int x4, .int x5, .int x6, .int x7] [] (hp nS M) Q = am_Wp d 25 0 [.int x1, .ref 101, .int x3, .int x4, .retAddr 0, .retAddr 0] [] (hp nS M) (fun v h1 => am_Wp (d + 1) 20 123 [.ref 31, .int x1, .ref 101, .int x3, .int x4, .int x5, .int x6, .int x7] (am_ans v [.int x1]) h1 Q) := by
  refine (eq_run 5 (q := (120, [.ref 31, .int x1, .ref 101, .int x3, .int x4, .int x5, .int x6, .int x7], [.int x4, .int x3, .ref 101, .int x1, .int x1], hp nS M)) (by with_unfolding_all rfl)).trans ?_
  exact eq_call2 (e := (.invokestatic 61, 3, 1, 25, 88)) (as := [.int x1, .ref 101, .int x3, .int x4]) (r := [.int x1]) (n := 4) (m := 6) (by with_unfolding_all rfl) rfl (by decide) (by with_unfolding_all rfl) (by decide) (by with_unfolding_all rfl) ⟨fun z => absurd z (by decide), fun z => by simp at z⟩
set_option maxRecDepth 20000 in
theorem b_20i1_123 {d nS : Nat} {x1 x3 x4 x5 x6 x7 s0 s1 : Int32} {M : am_M} {Q : Option Value → am_H → Prop} : am_Wp (d + 1) 20 123 [.ref 31, .int x1, .ref 101, .int x3, .int x4, .int x5, .int x6, .int x7] [.int s1, .int s0] (hp nS M) Q = am_Wp d 24 0 [.int s0, .int s1, .retAddr 0, .retAddr 0] [] (hp nS M) (fun v h1 => am_Wp (d + 1) 20 126 [.ref 31, .int x1, .ref 101, .int x3, .int x4, .int x5, .int x6, .int x7] (am_ans v []) h1 Q) := by
  exact eq_call2 (e := (.invokestatic 58, 3, 1, 24, 87)) (as := [.int s0, .int s1]) (r := []) (n := 2) (m := 4) (by with_unfolding_all rfl) rfl (by decide) (by with_unfolding_all rfl) (by decide) (by with_unfolding_all rfl) ⟨fun z => absurd z (by decide), fun z => by simp at z⟩
set_option maxRecDepth 20000 in
theorem b_20i1_126 {d nS : Nat} {x1 x3 x4 x5 x6 x7 s0 : Int32} {M : am_M} {Q : Option Value → am_H → Prop} : am_Wp d 20 126 [.ref 31, .int x1, .ref 101, .int x3, .int x4, .int x5, .int x6, .int x7] [.int s0] (hp nS M) Q = Q (some (.int s0)) (hp nS M) := by
  exact eq_retI2 (e := (.ireturn, 1, 0, 0, 0)) (t := .int) (by with_unfolding_all rfl) rfl (by with_unfolding_all rfl) rfl
-- LarkExchange$Law sees(LLarkExchange$World;III)V (21, (31, 18, None, None, None))
set_option maxRecDepth 20000 in
theorem b_21_0 {d nS : Nat} {x2 x3 x4 : Int32} {M : am_M} {Q : Option Value → am_H → Prop} : am_Wp (d + 1) 21 0 [.ref 31, .ref 18, .int x2, .int x3, .int x4, .retAddr 0] [] (hp nS M) Q = am_Wp d 104 0 [.ref 18, .int x2] [] (hp nS M) (fun v h1 => am_Wp (d + 1) 21 5 [.ref 31, .ref 18, .int x2, .int x3, .int x4, .retAddr 0] (am_ans v []) h1 Q) := by
  refine (eq_run 2 (q := (2, [.ref 31, .ref 18, .int x2, .int x3, .int x4, .retAddr 0], [.int x2, .ref 18], hp nS M)) (by with_unfolding_all rfl)).trans ?_
  exact eq_call2 (e := (.invokevirtual 65, 3, 0, 104, 89)) (as := [.ref 18, .int x2]) (r := []) (n := 2) (m := 2) (by with_unfolding_all rfl) rfl (by decide) (by with_unfolding_all rfl) (by decide) (by with_unfolding_all rfl) ⟨fun _ => am_rec_ok (c := 12) (by with_unfolding_all rfl) (by decide +kernel), fun z => by simp at z⟩
set_option maxRecDepth 20000 in
theorem b_21_5 {d nS : Nat} {x2 x3 x4 s0 : Int32} {M : am_M} {Q : Option Value → am_H → Prop} : am_Wp d 21 5 [.ref 31, .ref 18, .int x2, .int x3, .int x4, .retAddr 0] [.int s0] (hp nS M) Q = if s0 = 0 then am_Wp d 21 26 [.ref 31, .ref 18, .int x2, .int x3, .int x4, .int s0] [.int 0, .ref 37] (hp nS M) Q else am_Wp d 21 17 [.ref 31, .ref 18, .int x2, .int x3, .int x4, .int s0] [.int 0, .ref 37] (hp nS M) Q := by
  refine (eq_run 5 (q := (14, [.ref 31, .ref 18, .int x2, .int x3, .int x4, .int s0], [.int s0, .int 0, .ref 37], hp nS M)) (by with_unfolding_all rfl)).trans ?_
  exact eq_if_eq (by with_unfolding_all rfl)
set_option maxRecDepth 20000 in
theorem b_21_17 {d nS : Nat} {x2 x3 x4 x5 s1 : Int32} {M : am_M} {Q : Option Value → am_H → Prop} (h1 : vp_in x2 6) : am_Wp d 21 17 [.ref 31, .ref 18, .int x2, .int x3, .int x4, .int x5] [.int s1, .ref 37] (hp nS M) Q = am_Wp d 21 27 [.ref 31, .ref 18, .int x2, .int x3, .int x4, .int x5] [.int (M 19 x2.toNatClampNeg), .int s1, .ref 37] (hp nS M) Q := by
  refine (eq_run 3 (q := (22, [.ref 31, .ref 18, .int x2, .int x3, .int x4, .int x5], [.int x2, .ref 19, .int s1, .ref 37], hp nS M)) (by with_unfolding_all rfl)).trans ?_
  refine (eq_ald (e := (.iaload, 1, 0, 0, 0)) (by with_unfolding_all rfl) rfl (n := 6) (by with_unfolding_all rfl) h1).trans ?_
  exact eq_run 1 (q := (27, [.ref 31, .ref 18, .int x2, .int x3, .int x4, .int x5], [.int (M 19 x2.toNatClampNeg), .int s1, .ref 37], hp nS M)) (by with_unfolding_all rfl)
set_option maxRecDepth 20000 in
theorem b_21_26 {d nS : Nat} {x2 x3 x4 x5 s1 : Int32} {M : am_M} {Q : Option Value → am_H → Prop} : am_Wp d 21 26 [.ref 31, .ref 18, .int x2, .int x3, .int x4, .int x5] [.int s1, .ref 37] (hp nS M) Q = am_Wp d 21 27 [.ref 31, .ref 18, .int x2, .int x3, .int x4, .int x5] [.int 0, .int s1, .ref 37] (hp nS M) Q := by
  exact eq_run 1 (q := (27, [.ref 31, .ref 18, .int x2, .int x3, .int x4, .int x5], [.int 0, .int s1, .ref 37], hp nS M)) (by with_unfolding_all rfl)
set_option maxRecDepth 20000 in
theorem b_21_27 {d nS : Nat} {x2 x3 x4 x5 s1 s2 : Int32} {M : am_M} {Q : Option Value → am_H → Prop} (h1 : vp_in s1 9) : am_Wp d 21 27 [.ref 31, .ref 18, .int x2, .int x3, .int x4, .int x5] [.int s2, .int s1, .ref 37] (hp nS M) Q = if x5 = 0 then am_Wp d 21 47 [.ref 31, .ref 18, .int x2, .int x3, .int x4, .int x5] [.int 1, .ref 37] (hp nS (am_up M 37 s1.toNatClampNeg s2)) Q else am_Wp d 21 38 [.ref 31, .ref 18, .int x2, .int x3, .int x4, .int x5] [.int 1, .ref 37] (hp nS (am_up M 37 s1.toNatClampNeg s2)) Q := by
  refine (eq_ast (e := (.iastore, 1, 0, 0, 0)) (by with_unfolding_all rfl) rfl (n := 9) (by with_unfolding_all rfl) (by decide) h1).trans ?_
  refine (eq_run 4 (q := (35, [.ref 31, .ref 18, .int x2, .int x3, .int x4, .int x5], [.int x5, .int 1, .ref 37], hp nS (am_up M 37 s1.toNatClampNeg s2))) (by with_unfolding_all rfl)).trans ?_
  exact eq_if_eq (by with_unfolding_all rfl)
set_option maxRecDepth 20000 in
theorem b_21_38 {d nS : Nat} {x2 x3 x4 x5 s1 : Int32} {M : am_M} {Q : Option Value → am_H → Prop} (h1 : vp_in x2 6) : am_Wp d 21 38 [.ref 31, .ref 18, .int x2, .int x3, .int x4, .int x5] [.int s1, .ref 37] (hp nS M) Q = am_Wp d 21 48 [.ref 31, .ref 18, .int x2, .int x3, .int x4, .int x5] [.int (M 20 x2.toNatClampNeg), .int s1, .ref 37] (hp nS M) Q := by
  refine (eq_run 3 (q := (43, [.ref 31, .ref 18, .int x2, .int x3, .int x4, .int x5], [.int x2, .ref 20, .int s1, .ref 37], hp nS M)) (by with_unfolding_all rfl)).trans ?_
  refine (eq_ald (e := (.iaload, 1, 0, 0, 0)) (by with_unfolding_all rfl) rfl (n := 6) (by with_unfolding_all rfl) h1).trans ?_
  exact eq_run 1 (q := (48, [.ref 31, .ref 18, .int x2, .int x3, .int x4, .int x5], [.int (M 20 x2.toNatClampNeg), .int s1, .ref 37], hp nS M)) (by with_unfolding_all rfl)
set_option maxRecDepth 20000 in
theorem b_21_47 {d nS : Nat} {x2 x3 x4 x5 s1 : Int32} {M : am_M} {Q : Option Value → am_H → Prop} : am_Wp d 21 47 [.ref 31, .ref 18, .int x2, .int x3, .int x4, .int x5] [.int s1, .ref 37] (hp nS M) Q = am_Wp d 21 48 [.ref 31, .ref 18, .int x2, .int x3, .int x4, .int x5] [.int 0, .int s1, .ref 37] (hp nS M) Q := by
  exact eq_run 1 (q := (48, [.ref 31, .ref 18, .int x2, .int x3, .int x4, .int x5], [.int 0, .int s1, .ref 37], hp nS M)) (by with_unfolding_all rfl)
set_option maxRecDepth 20000 in
theorem b_21_48 {d nS : Nat} {x2 x3 x4 x5 s1 s2 : Int32} {M : am_M} {Q : Option Value → am_H → Prop} (h1 : vp_in s1 9) : am_Wp d 21 48 [.ref 31, .ref 18, .int x2, .int x3, .int x4, .int x5] [.int s2, .int s1, .ref 37] (hp nS M) Q = if x5 = 0 then am_Wp d 21 68 [.ref 31, .ref 18, .int x2, .int x3, .int x4, .int x5] [.int 2, .ref 37] (hp nS (am_up M 37 s1.toNatClampNeg s2)) Q else am_Wp d 21 59 [.ref 31, .ref 18, .int x2, .int x3, .int x4, .int x5] [.int 2, .ref 37] (hp nS (am_up M 37 s1.toNatClampNeg s2)) Q := by
  refine (eq_ast (e := (.iastore, 1, 0, 0, 0)) (by with_unfolding_all rfl) rfl (n := 9) (by with_unfolding_all rfl) (by decide) h1).trans ?_
  refine (eq_run 4 (q := (56, [.ref 31, .ref 18, .int x2, .int x3, .int x4, .int x5], [.int x5, .int 2, .ref 37], hp nS (am_up M 37 s1.toNatClampNeg s2))) (by with_unfolding_all rfl)).trans ?_
  exact eq_if_eq (by with_unfolding_all rfl)
set_option maxRecDepth 20000 in
theorem b_21_59 {d nS : Nat} {x2 x3 x4 x5 s1 : Int32} {M : am_M} {Q : Option Value → am_H → Prop} (h1 : vp_in x2 6) : am_Wp d 21 59 [.ref 31, .ref 18, .int x2, .int x3, .int x4, .int x5] [.int s1, .ref 37] (hp nS M) Q = am_Wp d 21 69 [.ref 31, .ref 18, .int x2, .int x3, .int x4, .int x5] [.int (M 21 x2.toNatClampNeg), .int s1, .ref 37] (hp nS M) Q := by
  refine (eq_run 3 (q := (64, [.ref 31, .ref 18, .int x2, .int x3, .int x4, .int x5], [.int x2, .ref 21, .int s1, .ref 37], hp nS M)) (by with_unfolding_all rfl)).trans ?_
  refine (eq_ald (e := (.iaload, 1, 0, 0, 0)) (by with_unfolding_all rfl) rfl (n := 6) (by with_unfolding_all rfl) h1).trans ?_
  exact eq_run 1 (q := (69, [.ref 31, .ref 18, .int x2, .int x3, .int x4, .int x5], [.int (M 21 x2.toNatClampNeg), .int s1, .ref 37], hp nS M)) (by with_unfolding_all rfl)
set_option maxRecDepth 20000 in
theorem b_21_68 {d nS : Nat} {x2 x3 x4 x5 s1 : Int32} {M : am_M} {Q : Option Value → am_H → Prop} : am_Wp d 21 68 [.ref 31, .ref 18, .int x2, .int x3, .int x4, .int x5] [.int s1, .ref 37] (hp nS M) Q = am_Wp d 21 69 [.ref 31, .ref 18, .int x2, .int x3, .int x4, .int x5] [.int 0, .int s1, .ref 37] (hp nS M) Q := by
  exact eq_run 1 (q := (69, [.ref 31, .ref 18, .int x2, .int x3, .int x4, .int x5], [.int 0, .int s1, .ref 37], hp nS M)) (by with_unfolding_all rfl)
set_option maxRecDepth 20000 in
theorem b_21_69 {d nS : Nat} {x2 x3 x4 x5 s1 s2 : Int32} {M : am_M} {Q : Option Value → am_H → Prop} (h1 : vp_in s1 9) : am_Wp d 21 69 [.ref 31, .ref 18, .int x2, .int x3, .int x4, .int x5] [.int s2, .int s1, .ref 37] (hp nS M) Q = if x5 = 0 then am_Wp d 21 89 [.ref 31, .ref 18, .int x2, .int x3, .int x4, .int x5] [.int 3, .ref 37] (hp nS (am_up M 37 s1.toNatClampNeg s2)) Q else am_Wp d 21 80 [.ref 31, .ref 18, .int x2, .int x3, .int x4, .int x5] [.int 3, .ref 37] (hp nS (am_up M 37 s1.toNatClampNeg s2)) Q := by
  refine (eq_ast (e := (.iastore, 1, 0, 0, 0)) (by with_unfolding_all rfl) rfl (n := 9) (by with_unfolding_all rfl) (by decide) h1).trans ?_
  refine (eq_run 4 (q := (77, [.ref 31, .ref 18, .int x2, .int x3, .int x4, .int x5], [.int x5, .int 3, .ref 37], hp nS (am_up M 37 s1.toNatClampNeg s2))) (by with_unfolding_all rfl)).trans ?_
  exact eq_if_eq (by with_unfolding_all rfl)
set_option maxRecDepth 20000 in
theorem b_21_80 {d nS : Nat} {x2 x3 x4 x5 s1 : Int32} {M : am_M} {Q : Option Value → am_H → Prop} (h1 : vp_in x2 6) : am_Wp d 21 80 [.ref 31, .ref 18, .int x2, .int x3, .int x4, .int x5] [.int s1, .ref 37] (hp nS M) Q = am_Wp d 21 90 [.ref 31, .ref 18, .int x2, .int x3, .int x4, .int x5] [.int (M 23 x2.toNatClampNeg), .int s1, .ref 37] (hp nS M) Q := by
  refine (eq_run 3 (q := (85, [.ref 31, .ref 18, .int x2, .int x3, .int x4, .int x5], [.int x2, .ref 23, .int s1, .ref 37], hp nS M)) (by with_unfolding_all rfl)).trans ?_
  refine (eq_ald (e := (.iaload, 1, 0, 0, 0)) (by with_unfolding_all rfl) rfl (n := 6) (by with_unfolding_all rfl) h1).trans ?_
  exact eq_run 1 (q := (90, [.ref 31, .ref 18, .int x2, .int x3, .int x4, .int x5], [.int (M 23 x2.toNatClampNeg), .int s1, .ref 37], hp nS M)) (by with_unfolding_all rfl)
set_option maxRecDepth 20000 in
theorem b_21_89 {d nS : Nat} {x2 x3 x4 x5 s1 : Int32} {M : am_M} {Q : Option Value → am_H → Prop} : am_Wp d 21 89 [.ref 31, .ref 18, .int x2, .int x3, .int x4, .int x5] [.int s1, .ref 37] (hp nS M) Q = am_Wp d 21 90 [.ref 31, .ref 18, .int x2, .int x3, .int x4, .int x5] [.int 0, .int s1, .ref 37] (hp nS M) Q := by
  exact eq_run 1 (q := (90, [.ref 31, .ref 18, .int x2, .int x3, .int x4, .int x5], [.int 0, .int s1, .ref 37], hp nS M)) (by with_unfolding_all rfl)
set_option maxRecDepth 20000 in
theorem b_21_90 {d nS : Nat} {x2 x3 x4 x5 s1 s2 : Int32} {M : am_M} {Q : Option Value → am_H → Prop} (h1 : vp_in s1 9) : am_Wp (d + 1) 21 90 [.ref 31, .ref 18, .int x2, .int x3, .int x4, .int x5] [.int s2, .int s1, .ref 37] (hp nS M) Q = am_Wp d 106 0 [.ref 18, .int x3] [] (hp nS (am_up (am_up (am_up M 37 s1.toNatClampNeg s2) 37 4 ((am_up M 37 s1.toNatClampNeg s2) 18 3)) 37 5 x4)) (fun v h1 => am_Wp (d + 1) 21 120 [.ref 31, .ref 18, .int x2, .int x3, .int x4, .int x5] (am_ans v [.int 6, .ref 37]) h1 Q) := by
  refine (eq_ast (e := (.iastore, 1, 0, 0, 0)) (by with_unfolding_all rfl) rfl (n := 9) (by with_unfolding_all rfl) (by decide) h1).trans ?_
  refine (eq_run 16 (q := (117, [.ref 31, .ref 18, .int x2, .int x3, .int x4, .int x5], [.int x3, .ref 18, .int 6, .ref 37], hp nS (am_up (am_up (am_up M 37 s1.toNatClampNeg s2) 37 4 ((am_up M 37 s1.toNatClampNeg s2) 18 3)) 37 5 x4))) (by with_unfolding_all rfl)).trans ?_
  exact eq_call2 (e := (.invokevirtual 86, 3, 0, 106, 90)) (as := [.ref 18, .int x3]) (r := [.int 6, .ref 37]) (n := 2) (m := 2) (by with_unfolding_all rfl) rfl (by decide) (by with_unfolding_all rfl) (by decide) (by with_unfolding_all rfl) ⟨fun _ => am_rec_ok (c := 12) (by with_unfolding_all rfl) (by decide +kernel), fun z => by simp at z⟩
set_option maxRecDepth 20000 in
theorem b_21_120 {d nS : Nat} {x2 x3 x4 x5 s1 s2 : Int32} {M : am_M} {Q : Option Value → am_H → Prop} : am_Wp d 21 120 [.ref 31, .ref 18, .int x2, .int x3, .int x4, .int x5] [.int s2, .int s1, .ref 37] (hp nS M) Q = if s2 = 0 then am_Wp d 21 132 [.ref 31, .ref 18, .int x2, .int x3, .int x4, .int x5] [.int s1, .ref 37] (hp nS M) Q else am_Wp d 21 123 [.ref 31, .ref 18, .int x2, .int x3, .int x4, .int x5] [.int s1, .ref 37] (hp nS M) Q := by
  exact eq_if_eq (by with_unfolding_all rfl)
set_option maxRecDepth 20000 in
theorem b_21_123 {d nS : Nat} {x2 x3 x4 x5 s1 : Int32} {M : am_M} {Q : Option Value → am_H → Prop} (h1 : vp_in x3 8) : am_Wp d 21 123 [.ref 31, .ref 18, .int x2, .int x3, .int x4, .int x5] [.int s1, .ref 37] (hp nS M) Q = am_Wp d 21 133 [.ref 31, .ref 18, .int x2, .int x3, .int x4, .int x5] [.int (M 24 x3.toNatClampNeg), .int s1, .ref 37] (hp nS M) Q := by
  refine (eq_run 3 (q := (128, [.ref 31, .ref 18, .int x2, .int x3, .int x4, .int x5], [.int x3, .ref 24, .int s1, .ref 37], hp nS M)) (by with_unfolding_all rfl)).trans ?_
  refine (eq_ald (e := (.iaload, 1, 0, 0, 0)) (by with_unfolding_all rfl) rfl (n := 8) (by with_unfolding_all rfl) h1).trans ?_
  exact eq_run 1 (q := (133, [.ref 31, .ref 18, .int x2, .int x3, .int x4, .int x5], [.int (M 24 x3.toNatClampNeg), .int s1, .ref 37], hp nS M)) (by with_unfolding_all rfl)
set_option maxRecDepth 20000 in
theorem b_21_132 {d nS : Nat} {x2 x3 x4 x5 s1 : Int32} {M : am_M} {Q : Option Value → am_H → Prop} : am_Wp d 21 132 [.ref 31, .ref 18, .int x2, .int x3, .int x4, .int x5] [.int s1, .ref 37] (hp nS M) Q = am_Wp d 21 133 [.ref 31, .ref 18, .int x2, .int x3, .int x4, .int x5] [.int 0, .int s1, .ref 37] (hp nS M) Q := by
  exact eq_run 1 (q := (133, [.ref 31, .ref 18, .int x2, .int x3, .int x4, .int x5], [.int 0, .int s1, .ref 37], hp nS M)) (by with_unfolding_all rfl)
set_option maxRecDepth 20000 in
theorem b_21_133 {d nS : Nat} {x2 x3 x4 x5 s1 s2 : Int32} {M : am_M} {Q : Option Value → am_H → Prop} (h1 : vp_in s1 9) : am_Wp d 21 133 [.ref 31, .ref 18, .int x2, .int x3, .int x4, .int x5] [.int s2, .int s1, .ref 37] (hp nS M) Q = if x5 = 0 then am_Wp d 21 154 [.ref 31, .ref 18, .int x2, .int x3, .int x4, .int x5] [.int 7, .ref 37] (hp nS (am_up M 37 s1.toNatClampNeg s2)) Q else am_Wp d 21 145 [.ref 31, .ref 18, .int x2, .int x3, .int x4, .int x5] [.int 7, .ref 37] (hp nS (am_up M 37 s1.toNatClampNeg s2)) Q := by
  refine (eq_ast (e := (.iastore, 1, 0, 0, 0)) (by with_unfolding_all rfl) rfl (n := 9) (by with_unfolding_all rfl) (by decide) h1).trans ?_
  refine (eq_run 4 (q := (142, [.ref 31, .ref 18, .int x2, .int x3, .int x4, .int x5], [.int x5, .int 7, .ref 37], hp nS (am_up M 37 s1.toNatClampNeg s2))) (by with_unfolding_all rfl)).trans ?_
  exact eq_if_eq (by with_unfolding_all rfl)
set_option maxRecDepth 20000 in
theorem b_21_145 {d nS : Nat} {x2 x3 x4 x5 s1 : Int32} {M : am_M} {Q : Option Value → am_H → Prop} (h1 : vp_in x2 6) : am_Wp d 21 145 [.ref 31, .ref 18, .int x2, .int x3, .int x4, .int x5] [.int s1, .ref 37] (hp nS M) Q = am_Wp d 21 155 [.ref 31, .ref 18, .int x2, .int x3, .int x4, .int x5] [.int (M 22 x2.toNatClampNeg), .int s1, .ref 37] (hp nS M) Q := by
  refine (eq_run 3 (q := (150, [.ref 31, .ref 18, .int x2, .int x3, .int x4, .int x5], [.int x2, .ref 22, .int s1, .ref 37], hp nS M)) (by with_unfolding_all rfl)).trans ?_
  refine (eq_ald (e := (.iaload, 1, 0, 0, 0)) (by with_unfolding_all rfl) rfl (n := 6) (by with_unfolding_all rfl) h1).trans ?_
  exact eq_run 1 (q := (155, [.ref 31, .ref 18, .int x2, .int x3, .int x4, .int x5], [.int (M 22 x2.toNatClampNeg), .int s1, .ref 37], hp nS M)) (by with_unfolding_all rfl)
set_option maxRecDepth 20000 in
theorem b_21_154 {d nS : Nat} {x2 x3 x4 x5 s1 : Int32} {M : am_M} {Q : Option Value → am_H → Prop} : am_Wp d 21 154 [.ref 31, .ref 18, .int x2, .int x3, .int x4, .int x5] [.int s1, .ref 37] (hp nS M) Q = am_Wp d 21 155 [.ref 31, .ref 18, .int x2, .int x3, .int x4, .int x5] [.int 0, .int s1, .ref 37] (hp nS M) Q := by
  exact eq_run 1 (q := (155, [.ref 31, .ref 18, .int x2, .int x3, .int x4, .int x5], [.int 0, .int s1, .ref 37], hp nS M)) (by with_unfolding_all rfl)
set_option maxRecDepth 20000 in
theorem b_21_155 {d nS : Nat} {x2 x3 x4 x5 s1 s2 : Int32} {M : am_M} {Q : Option Value → am_H → Prop} (h1 : vp_in s1 9) : am_Wp d 21 155 [.ref 31, .ref 18, .int x2, .int x3, .int x4, .int x5] [.int s2, .int s1, .ref 37] (hp nS M) Q = Q none (hp nS (am_up (am_up M 37 s1.toNatClampNeg s2) 37 8 ((am_up M 37 s1.toNatClampNeg s2) 18 4))) := by
  refine (eq_ast (e := (.iastore, 1, 0, 0, 0)) (by with_unfolding_all rfl) rfl (n := 9) (by with_unfolding_all rfl) (by decide) h1).trans ?_
  refine (eq_run 6 (q := (167, [.ref 31, .ref 18, .int x2, .int x3, .int x4, .int x5], [], hp nS (am_up (am_up M 37 s1.toNatClampNeg s2) 37 8 ((am_up M 37 s1.toNatClampNeg s2) 18 4)))) (by with_unfolding_all rfl)).trans ?_
  exact eq_retV2 (e := (.return_, 1, 0, 0, 0)) (by with_unfolding_all rfl) rfl (by with_unfolding_all rfl)
-- LarkExchange$Law sees(LLarkExchange$World;III)V (21, (31, 101, None, None, None))
set_option maxRecDepth 20000 in
theorem b_21i1_0 {d nS : Nat} {x2 x3 x4 : Int32} {M : am_M} {Q : Option Value → am_H → Prop} : am_Wp (d + 1) 21 0 [.ref 31, .ref 101, .int x2, .int x3, .int x4, .retAddr 0] [] (hp nS M) Q = am_Wp d 104 0 [.ref 101, .int x2] [] (hp nS M) (fun v h1 => am_Wp (d + 1) 21 5 [.ref 31, .ref 101, .int x2, .int x3, .int x4, .retAddr 0] (am_ans v []) h1 Q) := by
  refine (eq_run 2 (q := (2, [.ref 31, .ref 101, .int x2, .int x3, .int x4, .retAddr 0], [.int x2, .ref 101], hp nS M)) (by with_unfolding_all rfl)).trans ?_
  exact eq_call2 (e := (.invokevirtual 65, 3, 0, 104, 89)) (as := [.ref 101, .int x2]) (r := []) (n := 2) (m := 2) (by with_unfolding_all rfl) rfl (by decide) (by with_unfolding_all rfl) (by decide) (by with_unfolding_all rfl) ⟨fun _ => am_rec_ok (c := 12) (by with_unfolding_all rfl) (by decide +kernel), fun z => by simp at z⟩
set_option maxRecDepth 20000 in
theorem b_21i1_5 {d nS : Nat} {x2 x3 x4 s0 : Int32} {M : am_M} {Q : Option Value → am_H → Prop} : am_Wp d 21 5 [.ref 31, .ref 101, .int x2, .int x3, .int x4, .retAddr 0] [.int s0] (hp nS M) Q = if s0 = 0 then am_Wp d 21 26 [.ref 31, .ref 101, .int x2, .int x3, .int x4, .int s0] [.int 0, .ref 37] (hp nS M) Q else am_Wp d 21 17 [.ref 31, .ref 101, .int x2, .int x3, .int x4, .int s0] [.int 0, .ref 37] (hp nS M) Q := by
  refine (eq_run 5 (q := (14, [.ref 31, .ref 101, .int x2, .int x3, .int x4, .int s0], [.int s0, .int 0, .ref 37], hp nS M)) (by with_unfolding_all rfl)).trans ?_
  exact eq_if_eq (by with_unfolding_all rfl)
set_option maxRecDepth 20000 in
theorem b_21i1_17 {d nS : Nat} {x2 x3 x4 x5 s1 : Int32} {M : am_M} {Q : Option Value → am_H → Prop} (h1 : vp_in x2 6) : am_Wp d 21 17 [.ref 31, .ref 101, .int x2, .int x3, .int x4, .int x5] [.int s1, .ref 37] (hp nS M) Q = am_Wp d 21 27 [.ref 31, .ref 101, .int x2, .int x3, .int x4, .int x5] [.int (M 102 x2.toNatClampNeg), .int s1, .ref 37] (hp nS M) Q := by
  refine (eq_run 3 (q := (22, [.ref 31, .ref 101, .int x2, .int x3, .int x4, .int x5], [.int x2, .ref 102, .int s1, .ref 37], hp nS M)) (by with_unfolding_all rfl)).trans ?_
  refine (eq_ald (e := (.iaload, 1, 0, 0, 0)) (by with_unfolding_all rfl) rfl (n := 6) (by with_unfolding_all rfl) h1).trans ?_
  exact eq_run 1 (q := (27, [.ref 31, .ref 101, .int x2, .int x3, .int x4, .int x5], [.int (M 102 x2.toNatClampNeg), .int s1, .ref 37], hp nS M)) (by with_unfolding_all rfl)
set_option maxRecDepth 20000 in
theorem b_21i1_26 {d nS : Nat} {x2 x3 x4 x5 s1 : Int32} {M : am_M} {Q : Option Value → am_H → Prop} : am_Wp d 21 26 [.ref 31, .ref 101, .int x2, .int x3, .int x4, .int x5] [.int s1, .ref 37] (hp nS M) Q = am_Wp d 21 27 [.ref 31, .ref 101, .int x2, .int x3, .int x4, .int x5] [.int 0, .int s1, .ref 37] (hp nS M) Q := by
  exact eq_run 1 (q := (27, [.ref 31, .ref 101, .int x2, .int x3, .int x4, .int x5], [.int 0, .int s1, .ref 37], hp nS M)) (by with_unfolding_all rfl)
set_option maxRecDepth 20000 in
theorem b_21i1_27 {d nS : Nat} {x2 x3 x4 x5 s1 s2 : Int32} {M : am_M} {Q : Option Value → am_H → Prop} (h1 : vp_in s1 9) : am_Wp d 21 27 [.ref 31, .ref 101, .int x2, .int x3, .int x4, .int x5] [.int s2, .int s1, .ref 37] (hp nS M) Q = if x5 = 0 then am_Wp d 21 47 [.ref 31, .ref 101, .int x2, .int x3, .int x4, .int x5] [.int 1, .ref 37] (hp nS (am_up M 37 s1.toNatClampNeg s2)) Q else am_Wp d 21 38 [.ref 31, .ref 101, .int x2, .int x3, .int x4, .int x5] [.int 1, .ref 37] (hp nS (am_up M 37 s1.toNatClampNeg s2)) Q := by
  refine (eq_ast (e := (.iastore, 1, 0, 0, 0)) (by with_unfolding_all rfl) rfl (n := 9) (by with_unfolding_all rfl) (by decide) h1).trans ?_
  refine (eq_run 4 (q := (35, [.ref 31, .ref 101, .int x2, .int x3, .int x4, .int x5], [.int x5, .int 1, .ref 37], hp nS (am_up M 37 s1.toNatClampNeg s2))) (by with_unfolding_all rfl)).trans ?_
  exact eq_if_eq (by with_unfolding_all rfl)
set_option maxRecDepth 20000 in
theorem b_21i1_38 {d nS : Nat} {x2 x3 x4 x5 s1 : Int32} {M : am_M} {Q : Option Value → am_H → Prop} (h1 : vp_in x2 6) : am_Wp d 21 38 [.ref 31, .ref 101, .int x2, .int x3, .int x4, .int x5] [.int s1, .ref 37] (hp nS M) Q = am_Wp d 21 48 [.ref 31, .ref 101, .int x2, .int x3, .int x4, .int x5] [.int (M 103 x2.toNatClampNeg), .int s1, .ref 37] (hp nS M) Q := by
  refine (eq_run 3 (q := (43, [.ref 31, .ref 101, .int x2, .int x3, .int x4, .int x5], [.int x2, .ref 103, .int s1, .ref 37], hp nS M)) (by with_unfolding_all rfl)).trans ?_
  refine (eq_ald (e := (.iaload, 1, 0, 0, 0)) (by with_unfolding_all rfl) rfl (n := 6) (by with_unfolding_all rfl) h1).trans ?_
  exact eq_run 1 (q := (48, [.ref 31, .ref 101, .int x2, .int x3, .int x4, .int x5], [.int (M 103 x2.toNatClampNeg), .int s1, .ref 37], hp nS M)) (by with_unfolding_all rfl)
set_option maxRecDepth 20000 in
theorem b_21i1_47 {d nS : Nat} {x2 x3 x4 x5 s1 : Int32} {M : am_M} {Q : Option Value → am_H → Prop} : am_Wp d 21 47 [.ref 31, .ref 101, .int x2, .int x3, .int x4, .int x5] [.int s1, .ref 37] (hp nS M) Q = am_Wp d 21 48 [.ref 31, .ref 101, .int x2, .int x3, .int x4, .int x5] [.int 0, .int s1, .ref 37] (hp nS M) Q := by
  exact eq_run 1 (q := (48, [.ref 31, .ref 101, .int x2, .int x3, .int x4, .int x5], [.int 0, .int s1, .ref 37], hp nS M)) (by with_unfolding_all rfl)
set_option maxRecDepth 20000 in
theorem b_21i1_48 {d nS : Nat} {x2 x3 x4 x5 s1 s2 : Int32} {M : am_M} {Q : Option Value → am_H → Prop} (h1 : vp_in s1 9) : am_Wp d 21 48 [.ref 31, .ref 101, .int x2, .int x3, .int x4, .int x5] [.int s2, .int s1, .ref 37] (hp nS M) Q = if x5 = 0 then am_Wp d 21 68 [.ref 31, .ref 101, .int x2, .int x3, .int x4, .int x5] [.int 2, .ref 37] (hp nS (am_up M 37 s1.toNatClampNeg s2)) Q else am_Wp d 21 59 [.ref 31, .ref 101, .int x2, .int x3, .int x4, .int x5] [.int 2, .ref 37] (hp nS (am_up M 37 s1.toNatClampNeg s2)) Q := by
  refine (eq_ast (e := (.iastore, 1, 0, 0, 0)) (by with_unfolding_all rfl) rfl (n := 9) (by with_unfolding_all rfl) (by decide) h1).trans ?_
  refine (eq_run 4 (q := (56, [.ref 31, .ref 101, .int x2, .int x3, .int x4, .int x5], [.int x5, .int 2, .ref 37], hp nS (am_up M 37 s1.toNatClampNeg s2))) (by with_unfolding_all rfl)).trans ?_
  exact eq_if_eq (by with_unfolding_all rfl)
set_option maxRecDepth 20000 in
theorem b_21i1_59 {d nS : Nat} {x2 x3 x4 x5 s1 : Int32} {M : am_M} {Q : Option Value → am_H → Prop} (h1 : vp_in x2 6) : am_Wp d 21 59 [.ref 31, .ref 101, .int x2, .int x3, .int x4, .int x5] [.int s1, .ref 37] (hp nS M) Q = am_Wp d 21 69 [.ref 31, .ref 101, .int x2, .int x3, .int x4, .int x5] [.int (M 104 x2.toNatClampNeg), .int s1, .ref 37] (hp nS M) Q := by
  refine (eq_run 3 (q := (64, [.ref 31, .ref 101, .int x2, .int x3, .int x4, .int x5], [.int x2, .ref 104, .int s1, .ref 37], hp nS M)) (by with_unfolding_all rfl)).trans ?_
  refine (eq_ald (e := (.iaload, 1, 0, 0, 0)) (by with_unfolding_all rfl) rfl (n := 6) (by with_unfolding_all rfl) h1).trans ?_
  exact eq_run 1 (q := (69, [.ref 31, .ref 101, .int x2, .int x3, .int x4, .int x5], [.int (M 104 x2.toNatClampNeg), .int s1, .ref 37], hp nS M)) (by with_unfolding_all rfl)
set_option maxRecDepth 20000 in
theorem b_21i1_68 {d nS : Nat} {x2 x3 x4 x5 s1 : Int32} {M : am_M} {Q : Option Value → am_H → Prop} : am_Wp d 21 68 [.ref 31, .ref 101, .int x2, .int x3, .int x4, .int x5] [.int s1, .ref 37] (hp nS M) Q = am_Wp d 21 69 [.ref 31, .ref 101, .int x2, .int x3, .int x4, .int x5] [.int 0, .int s1, .ref 37] (hp nS M) Q := by
  exact eq_run 1 (q := (69, [.ref 31, .ref 101, .int x2, .int x3, .int x4, .int x5], [.int 0, .int s1, .ref 37], hp nS M)) (by with_unfolding_all rfl)
set_option maxRecDepth 20000 in
theorem b_21i1_69 {d nS : Nat} {x2 x3 x4 x5 s1 s2 : Int32} {M : am_M} {Q : Option Value → am_H → Prop} (h1 : vp_in s1 9) : am_Wp d 21 69 [.ref 31, .ref 101, .int x2, .int x3, .int x4, .int x5] [.int s2, .int s1, .ref 37] (hp nS M) Q = if x5 = 0 then am_Wp d 21 89 [.ref 31, .ref 101, .int x2, .int x3, .int x4, .int x5] [.int 3, .ref 37] (hp nS (am_up M 37 s1.toNatClampNeg s2)) Q else am_Wp d 21 80 [.ref 31, .ref 101, .int x2, .int x3, .int x4, .int x5] [.int 3, .ref 37] (hp nS (am_up M 37 s1.toNatClampNeg s2)) Q := by
  refine (eq_ast (e := (.iastore, 1, 0, 0, 0)) (by with_unfolding_all rfl) rfl (n := 9) (by with_unfolding_all rfl) (by decide) h1).trans ?_
  refine (eq_run 4 (q := (77, [.ref 31, .ref 101, .int x2, .int x3, .int x4, .int x5], [.int x5, .int 3, .ref 37], hp nS (am_up M 37 s1.toNatClampNeg s2))) (by with_unfolding_all rfl)).trans ?_
  exact eq_if_eq (by with_unfolding_all rfl)
set_option maxRecDepth 20000 in
theorem b_21i1_80 {d nS : Nat} {x2 x3 x4 x5 s1 : Int32} {M : am_M} {Q : Option Value → am_H → Prop} (h1 : vp_in x2 6) : am_Wp d 21 80 [.ref 31, .ref 101, .int x2, .int x3, .int x4, .int x5] [.int s1, .ref 37] (hp nS M) Q = am_Wp d 21 90 [.ref 31, .ref 101, .int x2, .int x3, .int x4, .int x5] [.int (M 106 x2.toNatClampNeg), .int s1, .ref 37] (hp nS M) Q := by
  refine (eq_run 3 (q := (85, [.ref 31, .ref 101, .int x2, .int x3, .int x4, .int x5], [.int x2, .ref 106, .int s1, .ref 37], hp nS M)) (by with_unfolding_all rfl)).trans ?_
  refine (eq_ald (e := (.iaload, 1, 0, 0, 0)) (by with_unfolding_all rfl) rfl (n := 6) (by with_unfolding_all rfl) h1).trans ?_
  exact eq_run 1 (q := (90, [.ref 31, .ref 101, .int x2, .int x3, .int x4, .int x5], [.int (M 106 x2.toNatClampNeg), .int s1, .ref 37], hp nS M)) (by with_unfolding_all rfl)
set_option maxRecDepth 20000 in
theorem b_21i1_89 {d nS : Nat} {x2 x3 x4 x5 s1 : Int32} {M : am_M} {Q : Option Value → am_H → Prop} : am_Wp d 21 89 [.ref 31, .ref 101, .int x2, .int x3, .int x4, .int x5] [.int s1, .ref 37] (hp nS M) Q = am_Wp d 21 90 [.ref 31, .ref 101, .int x2, .int x3, .int x4, .int x5] [.int 0, .int s1, .ref 37] (hp nS M) Q := by
  exact eq_run 1 (q := (90, [.ref 31, .ref 101, .int x2, .int x3, .int x4, .int x5], [.int 0, .int s1, .ref 37], hp nS M)) (by with_unfolding_all rfl)
set_option maxRecDepth 20000 in
theorem b_21i1_90 {d nS : Nat} {x2 x3 x4 x5 s1 s2 : Int32} {M : am_M} {Q : Option Value → am_H → Prop} (h1 : vp_in s1 9) : am_Wp (d + 1) 21 90 [.ref 31, .ref 101, .int x2, .int x3, .int x4, .int x5] [.int s2, .int s1, .ref 37] (hp nS M) Q = am_Wp d 106 0 [.ref 101, .int x3] [] (hp nS (am_up (am_up (am_up M 37 s1.toNatClampNeg s2) 37 4 ((am_up M 37 s1.toNatClampNeg s2) 101 3)) 37 5 x4)) (fun v h1 => am_Wp (d + 1) 21 120 [.ref 31, .ref 101, .int x2, .int x3, .int x4, .int x5] (am_ans v [.int 6, .ref 37]) h1 Q) := by
  refine (eq_ast (e := (.iastore, 1, 0, 0, 0)) (by with_unfolding_all rfl) rfl (n := 9) (by with_unfolding_all rfl) (by decide) h1).trans ?_
  refine (eq_run 16 (q := (117, [.ref 31, .ref 101, .int x2, .int x3, .int x4, .int x5], [.int x3, .ref 101, .int 6, .ref 37], hp nS (am_up (am_up (am_up M 37 s1.toNatClampNeg s2) 37 4 ((am_up M 37 s1.toNatClampNeg s2) 101 3)) 37 5 x4))) (by with_unfolding_all rfl)).trans ?_
  exact eq_call2 (e := (.invokevirtual 86, 3, 0, 106, 90)) (as := [.ref 101, .int x3]) (r := [.int 6, .ref 37]) (n := 2) (m := 2) (by with_unfolding_all rfl) rfl (by decide) (by with_unfolding_all rfl) (by decide) (by with_unfolding_all rfl) ⟨fun _ => am_rec_ok (c := 12) (by with_unfolding_all rfl) (by decide +kernel), fun z => by simp at z⟩
set_option maxRecDepth 20000 in
theorem b_21i1_120 {d nS : Nat} {x2 x3 x4 x5 s1 s2 : Int32} {M : am_M} {Q : Option Value → am_H → Prop} : am_Wp d 21 120 [.ref 31, .ref 101, .int x2, .int x3, .int x4, .int x5] [.int s2, .int s1, .ref 37] (hp nS M) Q = if s2 = 0 then am_Wp d 21 132 [.ref 31, .ref 101, .int x2, .int x3, .int x4, .int x5] [.int s1, .ref 37] (hp nS M) Q else am_Wp d 21 123 [.ref 31, .ref 101, .int x2, .int x3, .int x4, .int x5] [.int s1, .ref 37] (hp nS M) Q := by
  exact eq_if_eq (by with_unfolding_all rfl)
set_option maxRecDepth 20000 in
theorem b_21i1_123 {d nS : Nat} {x2 x3 x4 x5 s1 : Int32} {M : am_M} {Q : Option Value → am_H → Prop} (h1 : vp_in x3 8) : am_Wp d 21 123 [.ref 31, .ref 101, .int x2, .int x3, .int x4, .int x5] [.int s1, .ref 37] (hp nS M) Q = am_Wp d 21 133 [.ref 31, .ref 101, .int x2, .int x3, .int x4, .int x5] [.int (M 107 x3.toNatClampNeg), .int s1, .ref 37] (hp nS M) Q := by
  refine (eq_run 3 (q := (128, [.ref 31, .ref 101, .int x2, .int x3, .int x4, .int x5], [.int x3, .ref 107, .int s1, .ref 37], hp nS M)) (by with_unfolding_all rfl)).trans ?_
  refine (eq_ald (e := (.iaload, 1, 0, 0, 0)) (by with_unfolding_all rfl) rfl (n := 8) (by with_unfolding_all rfl) h1).trans ?_
  exact eq_run 1 (q := (133, [.ref 31, .ref 101, .int x2, .int x3, .int x4, .int x5], [.int (M 107 x3.toNatClampNeg), .int s1, .ref 37], hp nS M)) (by with_unfolding_all rfl)
set_option maxRecDepth 20000 in
theorem b_21i1_132 {d nS : Nat} {x2 x3 x4 x5 s1 : Int32} {M : am_M} {Q : Option Value → am_H → Prop} : am_Wp d 21 132 [.ref 31, .ref 101, .int x2, .int x3, .int x4, .int x5] [.int s1, .ref 37] (hp nS M) Q = am_Wp d 21 133 [.ref 31, .ref 101, .int x2, .int x3, .int x4, .int x5] [.int 0, .int s1, .ref 37] (hp nS M) Q := by
  exact eq_run 1 (q := (133, [.ref 31, .ref 101, .int x2, .int x3, .int x4, .int x5], [.int 0, .int s1, .ref 37], hp nS M)) (by with_unfolding_all rfl)
set_option maxRecDepth 20000 in
theorem b_21i1_133 {d nS : Nat} {x2 x3 x4 x5 s1 s2 : Int32} {M : am_M} {Q : Option Value → am_H → Prop} (h1 : vp_in s1 9) : am_Wp d 21 133 [.ref 31, .ref 101, .int x2, .int x3, .int x4, .int x5] [.int s2, .int s1, .ref 37] (hp nS M) Q = if x5 = 0 then am_Wp d 21 154 [.ref 31, .ref 101, .int x2, .int x3, .int x4, .int x5] [.int 7, .ref 37] (hp nS (am_up M 37 s1.toNatClampNeg s2)) Q else am_Wp d 21 145 [.ref 31, .ref 101, .int x2, .int x3, .int x4, .int x5] [.int 7, .ref 37] (hp nS (am_up M 37 s1.toNatClampNeg s2)) Q := by
  refine (eq_ast (e := (.iastore, 1, 0, 0, 0)) (by with_unfolding_all rfl) rfl (n := 9) (by with_unfolding_all rfl) (by decide) h1).trans ?_
  refine (eq_run 4 (q := (142, [.ref 31, .ref 101, .int x2, .int x3, .int x4, .int x5], [.int x5, .int 7, .ref 37], hp nS (am_up M 37 s1.toNatClampNeg s2))) (by with_unfolding_all rfl)).trans ?_
  exact eq_if_eq (by with_unfolding_all rfl)
set_option maxRecDepth 20000 in
theorem b_21i1_145 {d nS : Nat} {x2 x3 x4 x5 s1 : Int32} {M : am_M} {Q : Option Value → am_H → Prop} (h1 : vp_in x2 6) : am_Wp d 21 145 [.ref 31, .ref 101, .int x2, .int x3, .int x4, .int x5] [.int s1, .ref 37] (hp nS M) Q = am_Wp d 21 155 [.ref 31, .ref 101, .int x2, .int x3, .int x4, .int x5] [.int (M 105 x2.toNatClampNeg), .int s1, .ref 37] (hp nS M) Q := by
  refine (eq_run 3 (q := (150, [.ref 31, .ref 101, .int x2, .int x3, .int x4, .int x5], [.int x2, .ref 105, .int s1, .ref 37], hp nS M)) (by with_unfolding_all rfl)).trans ?_
  refine (eq_ald (e := (.iaload, 1, 0, 0, 0)) (by with_unfolding_all rfl) rfl (n := 6) (by with_unfolding_all rfl) h1).trans ?_
  exact eq_run 1 (q := (155, [.ref 31, .ref 101, .int x2, .int x3, .int x4, .int x5], [.int (M 105 x2.toNatClampNeg), .int s1, .ref 37], hp nS M)) (by with_unfolding_all rfl)
set_option maxRecDepth 20000 in
theorem b_21i1_154 {d nS : Nat} {x2 x3 x4 x5 s1 : Int32} {M : am_M} {Q : Option Value → am_H → Prop} : am_Wp d 21 154 [.ref 31, .ref 101, .int x2, .int x3, .int x4, .int x5] [.int s1, .ref 37] (hp nS M) Q = am_Wp d 21 155 [.ref 31, .ref 101, .int x2, .int x3, .int x4, .int x5] [.int 0, .int s1, .ref 37] (hp nS M) Q := by
  exact eq_run 1 (q := (155, [.ref 31, .ref 101, .int x2, .int x3, .int x4, .int x5], [.int 0, .int s1, .ref 37], hp nS M)) (by with_unfolding_all rfl)
set_option maxRecDepth 20000 in
theorem b_21i1_155 {d nS : Nat} {x2 x3 x4 x5 s1 s2 : Int32} {M : am_M} {Q : Option Value → am_H → Prop} (h1 : vp_in s1 9) : am_Wp d 21 155 [.ref 31, .ref 101, .int x2, .int x3, .int x4, .int x5] [.int s2, .int s1, .ref 37] (hp nS M) Q = Q none (hp nS (am_up (am_up M 37 s1.toNatClampNeg s2) 37 8 ((am_up M 37 s1.toNatClampNeg s2) 101 4))) := by
  refine (eq_ast (e := (.iastore, 1, 0, 0, 0)) (by with_unfolding_all rfl) rfl (n := 9) (by with_unfolding_all rfl) (by decide) h1).trans ?_
  refine (eq_run 6 (q := (167, [.ref 31, .ref 101, .int x2, .int x3, .int x4, .int x5], [], hp nS (am_up (am_up M 37 s1.toNatClampNeg s2) 37 8 ((am_up M 37 s1.toNatClampNeg s2) 101 4)))) (by with_unfolding_all rfl)).trans ?_
  exact eq_retV2 (e := (.return_, 1, 0, 0, 0)) (by with_unfolding_all rfl) rfl (by with_unfolding_all rfl)
-- LarkExchange$Law comesTo(II)I (22, (31, None, None))
set_option maxRecDepth 20000 in
theorem b_22_0 {d nS : Nat} {x1 x2 : Int32} {M : am_M} {Q : Option Value → am_H → Prop} : am_Wp d 22 0 [.ref 31, .int x1, .int x2, .retAddr 0, .retAddr 0, .retAddr 0, .retAddr 0, .retAddr 0] [] (hp nS M) Q = am_Wp d 22 5 [.ref 31, .int x1, .int x2, .int 0, .int x1, .retAddr 0, .retAddr 0, .retAddr 0] [] (hp nS M) Q := by
  exact eq_run 4 (q := (5, [.ref 31, .int x1, .int x2, .int 0, .int x1, .retAddr 0, .retAddr 0, .retAddr 0], [], hp nS M)) (by with_unfolding_all rfl)
set_option maxRecDepth 20000 in
theorem b_22_5 {d nS : Nat} {x1 x2 x3 x4 : Int32} {zx5 zx6 zx7 : Value} {M : am_M} {Q : Option Value → am_H → Prop} : am_Wp d 22 5 [.ref 31, .int x1, .int x2, .int x3, .int x4, zx5, zx6, zx7] [] (hp nS M) Q = if x2 ≤ x4 then am_Wp d 22 182 [.ref 31, .int x1, .int x2, .int x3, .int x4, zx5, zx6, zx7] [] (hp nS M) Q else am_Wp d 22 11 [.ref 31, .int x1, .int x2, .int x3, .int x4, zx5, zx6, zx7] [] (hp nS M) Q := by
  refine (eq_run 2 (q := (8, [.ref 31, .int x1, .int x2, .int x3, .int x4, zx5, zx6, zx7], [.int x2, .int x4], hp nS M)) (by with_unfolding_all rfl)).trans ?_
  exact eq_cmp_ge (by with_unfolding_all rfl)
set_option maxRecDepth 20000 in
theorem b_22_11 {d nS : Nat} {x1 x2 x3 x4 : Int32} {zx5 zx6 zx7 : Value} {M : am_M} {Q : Option Value → am_H → Prop} : am_Wp d 22 11 [.ref 31, .int x1, .int x2, .int x3, .int x4, zx5, zx6, zx7] [] (hp nS M) Q = if 400 ≤ x4 then am_Wp d 22 182 [.ref 31, .int x1, .int x2, .int x3, .int x4, zx5, zx6, zx7] [] (hp nS M) Q else am_Wp d 22 19 [.ref 31, .int x1, .int x2, .int x3, .int x4, zx5, zx6, zx7] [] (hp nS M) Q := by
  refine (eq_run 2 (q := (16, [.ref 31, .int x1, .int x2, .int x3, .int x4, zx5, zx6, zx7], [.int 400, .int x4], hp nS M)) (by with_unfolding_all rfl)).trans ?_
  exact eq_cmp_ge (by with_unfolding_all rfl)
set_option maxRecDepth 20000 in
theorem b_22_19 {d nS : Nat} {x1 x2 x3 x4 : Int32} {zx5 zx6 zx7 : Value} {M : am_M} {Q : Option Value → am_H → Prop} (h1 : vp_in x4 400) : am_Wp d 22 19 [.ref 31, .int x1, .int x2, .int x3, .int x4, zx5, zx6, zx7] [] (hp nS M) Q = if 0 ≤ (M 36 x4.toNatClampNeg) then am_Wp d 22 53 [.ref 31, .int x1, .int x2, .int x3, .int x4, .int (M 36 x4.toNatClampNeg), .int ((M 36 x4.toNatClampNeg) ^^^ (-1)), zx7] [] (hp nS M) Q else am_Wp d 22 39 [.ref 31, .int x1, .int x2, .int x3, .int x4, .int (M 36 x4.toNatClampNeg), .int ((M 36 x4.toNatClampNeg) ^^^ (-1)), zx7] [] (hp nS M) Q := by
  refine (eq_run 3 (q := (25, [.ref 31, .int x1, .int x2, .int x3, .int x4, zx5, zx6, zx7], [.int x4, .ref 36], hp nS M)) (by with_unfolding_all rfl)).trans ?_
  refine (eq_ald (e := (.iaload, 1, 0, 0, 0)) (by with_unfolding_all rfl) rfl (n := 400) (by with_unfolding_all rfl) h1).trans ?_
  refine (eq_run 6 (q := (36, [.ref 31, .int x1, .int x2, .int x3, .int x4, .int (M 36 x4.toNatClampNeg), .int ((M 36 x4.toNatClampNeg) ^^^ (-1)), zx7], [.int (M 36 x4.toNatClampNeg)], hp nS M)) (by with_unfolding_all rfl)).trans ?_
  exact eq_if_ge (by with_unfolding_all rfl)
set_option maxRecDepth 20000 in
theorem b_22_39 {d nS : Nat} {x1 x2 x3 x4 x5 x6 : Int32} {zx7 : Value} {M : am_M} {Q : Option Value → am_H → Prop} : am_Wp d 22 39 [.ref 31, .int x1, .int x2, .int x3, .int x4, .int x5, .int x6, zx7] [] (hp nS M) Q = if x6 < 7 then am_Wp d 22 57 [.ref 31, .int x1, .int x2, .int x3, .int x4, .int x5, .int x6, zx7] [] (hp nS M) Q else am_Wp d 22 46 [.ref 31, .int x1, .int x2, .int x3, .int x4, .int x5, .int x6, zx7] [] (hp nS M) Q := by
  refine (eq_run 2 (q := (43, [.ref 31, .int x1, .int x2, .int x3, .int x4, .int x5, .int x6, zx7], [.int 7, .int x6], hp nS M)) (by with_unfolding_all rfl)).trans ?_
  exact eq_cmp_lt (by with_unfolding_all rfl)
set_option maxRecDepth 20000 in
theorem b_22_46 {d nS : Nat} {x1 x2 x3 x4 x5 x6 : Int32} {zx7 : Value} {M : am_M} {Q : Option Value → am_H → Prop} : am_Wp d 22 46 [.ref 31, .int x1, .int x2, .int x3, .int x4, .int x5, .int x6, zx7] [] (hp nS M) Q = if 15 < x6 then am_Wp d 22 57 [.ref 31, .int x1, .int x2, .int x3, .int x4, .int x5, .int x6, zx7] [] (hp nS M) Q else am_Wp d 22 53 [.ref 31, .int x1, .int x2, .int x3, .int x4, .int x5, .int x6, zx7] [] (hp nS M) Q := by
  refine (eq_run 2 (q := (50, [.ref 31, .int x1, .int x2, .int x3, .int x4, .int x5, .int x6, zx7], [.int 15, .int x6], hp nS M)) (by with_unfolding_all rfl)).trans ?_
  exact eq_cmp_gt (by with_unfolding_all rfl)
set_option maxRecDepth 20000 in
theorem b_22_53 {d nS : Nat} {x1 x2 x3 x4 x5 x6 : Int32} {zx7 : Value} {M : am_M} {Q : Option Value → am_H → Prop} : am_Wp d 22 53 [.ref 31, .int x1, .int x2, .int x3, .int x4, .int x5, .int x6, zx7] [] (hp nS M) Q = am_Wp d 22 58 [.ref 31, .int x1, .int x2, .int x3, .int x4, .int x5, .int x6, zx7] [.int 1] (hp nS M) Q := by
  exact eq_run 2 (q := (58, [.ref 31, .int x1, .int x2, .int x3, .int x4, .int x5, .int x6, zx7], [.int 1], hp nS M)) (by with_unfolding_all rfl)
set_option maxRecDepth 20000 in
theorem b_22_57 {d nS : Nat} {x1 x2 x3 x4 x5 x6 : Int32} {zx7 : Value} {M : am_M} {Q : Option Value → am_H → Prop} : am_Wp d 22 57 [.ref 31, .int x1, .int x2, .int x3, .int x4, .int x5, .int x6, zx7] [] (hp nS M) Q = am_Wp d 22 58 [.ref 31, .int x1, .int x2, .int x3, .int x4, .int x5, .int x6, zx7] [.int 0] (hp nS M) Q := by
  exact eq_run 1 (q := (58, [.ref 31, .int x1, .int x2, .int x3, .int x4, .int x5, .int x6, zx7], [.int 0], hp nS M)) (by with_unfolding_all rfl)
set_option maxRecDepth 20000 in
theorem b_22_58 {d nS : Nat} {x1 x2 x3 x4 x5 x6 s0 : Int32} {zx7 : Value} {M : am_M} {Q : Option Value → am_H → Prop} : am_Wp d 22 58 [.ref 31, .int x1, .int x2, .int x3, .int x4, .int x5, .int x6, zx7] [.int s0] (hp nS M) Q = if s0 = 0 then am_Wp d 22 103 [.ref 31, .int x1, .int x2, .int x3, .int x4, .int x5, .int x6, .int s0] [] (hp nS M) Q else am_Wp d 22 65 [.ref 31, .int x1, .int x2, .int x3, .int x4, .int x5, .int x6, .int s0] [] (hp nS M) Q := by
  refine (eq_run 2 (q := (62, [.ref 31, .int x1, .int x2, .int x3, .int x4, .int x5, .int x6, .int s0], [.int s0], hp nS M)) (by with_unfolding_all rfl)).trans ?_
  exact eq_if_eq (by with_unfolding_all rfl)
set_option maxRecDepth 20000 in
theorem b_22_65 {d nS : Nat} {x1 x2 x3 x4 x5 x6 x7 : Int32} {M : am_M} {Q : Option Value → am_H → Prop} : am_Wp d 22 65 [.ref 31, .int x1, .int x2, .int x3, .int x4, .int x5, .int x6, .int x7] [] (hp nS M) Q = if 32 ≤ x3 then am_Wp d 22 103 [.ref 31, .int x1, .int x2, .int x3, .int x4, .int x5, .int x6, .int x7] [] (hp nS M) Q else am_Wp d 22 71 [.ref 31, .int x1, .int x2, .int x3, .int x4, .int x5, .int x6, .int x7] [] (hp nS M) Q := by
  refine (eq_run 2 (q := (68, [.ref 31, .int x1, .int x2, .int x3, .int x4, .int x5, .int x6, .int x7], [.int 32, .int x3], hp nS M)) (by with_unfolding_all rfl)).trans ?_
  exact eq_cmp_ge (by with_unfolding_all rfl)
set_option maxRecDepth 20000 in
theorem b_22_71 {d nS : Nat} {x1 x2 x3 x4 x5 x6 x7 : Int32} {M : am_M} {Q : Option Value → am_H → Prop} : am_Wp d 22 71 [.ref 31, .int x1, .int x2, .int x3, .int x4, .int x5, .int x6, .int x7] [] (hp nS M) Q = if x5 < 0 then am_Wp d 22 86 [.ref 31, .int x1, .int x2, .int x3, .int x4, .int x5, .int x6, .int x7] [.int x3, .ref 38] (hp nS M) Q else am_Wp d 22 81 [.ref 31, .int x1, .int x2, .int x3, .int x4, .int x5, .int x6, .int x7] [.int x3, .ref 38] (hp nS M) Q := by
  refine (eq_run 4 (q := (78, [.ref 31, .int x1, .int x2, .int x3, .int x4, .int x5, .int x6, .int x7], [.int x5, .int x3, .ref 38], hp nS M)) (by with_unfolding_all rfl)).trans ?_
  exact eq_if_lt (by with_unfolding_all rfl)
set_option maxRecDepth 20000 in
theorem b_22_81 {d nS : Nat} {x1 x2 x3 x4 x5 x6 x7 s1 : Int32} {M : am_M} {Q : Option Value → am_H → Prop} : am_Wp d 22 81 [.ref 31, .int x1, .int x2, .int x3, .int x4, .int x5, .int x6, .int x7] [.int s1, .ref 38] (hp nS M) Q = am_Wp d 22 96 [.ref 31, .int x1, .int x2, .int x3, .int x4, .int x5, .int x6, .int x7] [.int x5, .int s1, .ref 38] (hp nS M) Q := by
  exact eq_run 2 (q := (96, [.ref 31, .int x1, .int x2, .int x3, .int x4, .int x5, .int x6, .int x7], [.int x5, .int s1, .ref 38], hp nS M)) (by with_unfolding_all rfl)
set_option maxRecDepth 20000 in
theorem b_22_86 {d nS : Nat} {x1 x2 x3 x4 x5 x6 x7 s1 : Int32} {M : am_M} {Q : Option Value → am_H → Prop} (h1 : vp_in (x6 - 7) 9) : am_Wp d 22 86 [.ref 31, .int x1, .int x2, .int x3, .int x4, .int x5, .int x6, .int x7] [.int s1, .ref 38] (hp nS M) Q = am_Wp d 22 96 [.ref 31, .int x1, .int x2, .int x3, .int x4, .int x5, .int x6, .int x7] [.int (M 37 (x6 - 7).toNatClampNeg), .int s1, .ref 38] (hp nS M) Q := by
  refine (eq_run 5 (q := (95, [.ref 31, .int x1, .int x2, .int x3, .int x4, .int x5, .int x6, .int x7], [.int (x6 - 7), .ref 37, .int s1, .ref 38], hp nS M)) (by with_unfolding_all rfl)).trans ?_
  exact eq_ald (e := (.iaload, 1, 0, 0, 0)) (by with_unfolding_all rfl) rfl (n := 9) (by with_unfolding_all rfl) h1
set_option maxRecDepth 20000 in
theorem b_22_96 {d nS : Nat} {x1 x2 x3 x4 x5 x6 x7 s1 s2 : Int32} {M : am_M} {Q : Option Value → am_H → Prop} (h1 : vp_in s1 32) : am_Wp d 22 96 [.ref 31, .int x1, .int x2, .int x3, .int x4, .int x5, .int x6, .int x7] [.int s2, .int s1, .ref 38] (hp nS M) Q = am_Wp d 22 176 [.ref 31, .int x1, .int x2, .int (x3 + 1), .int x4, .int x5, .int x6, .int x7] [] (hp nS (am_up M 38 s1.toNatClampNeg s2)) Q := by
  refine (eq_ast (e := (.iastore, 1, 0, 0, 0)) (by with_unfolding_all rfl) rfl (n := 32) (by with_unfolding_all rfl) (by decide) h1).trans ?_
  exact eq_run 2 (q := (176, [.ref 31, .int x1, .int x2, .int (x3 + 1), .int x4, .int x5, .int x6, .int x7], [], hp nS (am_up M 38 s1.toNatClampNeg s2))) (by with_unfolding_all rfl)
set_option maxRecDepth 20000 in
theorem b_22_103 {d nS : Nat} {x1 x2 x3 x4 x5 x6 x7 : Int32} {M : am_M} {Q : Option Value → am_H → Prop} : am_Wp d 22 103 [.ref 31, .int x1, .int x2, .int x3, .int x4, .int x5, .int x6, .int x7] [] (hp nS M) Q = if ¬ x6 = 6 then am_Wp d 22 136 [.ref 31, .int x1, .int x2, .int x3, .int x4, .int x5, .int x6, .int x7] [] (hp nS M) Q else am_Wp d 22 110 [.ref 31, .int x1, .int x2, .int x3, .int x4, .int x5, .int x6, .int x7] [] (hp nS M) Q := by
  refine (eq_run 2 (q := (107, [.ref 31, .int x1, .int x2, .int x3, .int x4, .int x5, .int x6, .int x7], [.int 6, .int x6], hp nS M)) (by with_unfolding_all rfl)).trans ?_
  exact eq_cmp_ne (by with_unfolding_all rfl)
set_option maxRecDepth 20000 in
theorem b_22_110 {d nS : Nat} {x1 x2 x3 x4 x5 x6 x7 : Int32} {M : am_M} {Q : Option Value → am_H → Prop} : am_Wp d 22 110 [.ref 31, .int x1, .int x2, .int x3, .int x4, .int x5, .int x6, .int x7] [] (hp nS M) Q = if x3 < 1 then am_Wp d 22 136 [.ref 31, .int x1, .int x2, .int x3, .int x4, .int x5, .int x6, .int x7] [] (hp nS M) Q else am_Wp d 22 115 [.ref 31, .int x1, .int x2, .int x3, .int x4, .int x5, .int x6, .int x7] [] (hp nS M) Q := by
  refine (eq_run 2 (q := (112, [.ref 31, .int x1, .int x2, .int x3, .int x4, .int x5, .int x6, .int x7], [.int 1, .int x3], hp nS M)) (by with_unfolding_all rfl)).trans ?_
  exact eq_cmp_lt (by with_unfolding_all rfl)
set_option maxRecDepth 20000 in
theorem b_22_115 {d nS : Nat} {x1 x2 x3 x4 x5 x6 x7 : Int32} {M : am_M} {Q : Option Value → am_H → Prop} (h1 : vp_in (x3 - 1) 32) (h2 : vp_in (x3 - 1) 32) : am_Wp d 22 115 [.ref 31, .int x1, .int x2, .int x3, .int x4, .int x5, .int x6, .int x7] [] (hp nS M) Q = am_Wp d 22 176 [.ref 31, .int x1, .int x2, .int x3, .int x4, .int x5, .int x6, .int x7] [] (hp nS (am_up M 38 (x3 - 1).toNatClampNeg (1 - (M 38 (x3 - 1).toNatClampNeg)))) Q := by
  refine (eq_run 11 (q := (130, [.ref 31, .int x1, .int x2, .int x3, .int x4, .int x5, .int x6, .int x7], [.int (x3 - 1), .ref 38, .int 1, .int (x3 - 1), .ref 38], hp nS M)) (by with_unfolding_all rfl)).trans ?_
  refine (eq_ald (e := (.iaload, 1, 0, 0, 0)) (by with_unfolding_all rfl) rfl (n := 32) (by with_unfolding_all rfl) h1).trans ?_
  refine (eq_run 1 (q := (132, [.ref 31, .int x1, .int x2, .int x3, .int x4, .int x5, .int x6, .int x7], [.int (1 - (M 38 (x3 - 1).toNatClampNeg)), .int (x3 - 1), .ref 38], hp nS M)) (by with_unfolding_all rfl)).trans ?_
  refine (eq_ast (e := (.iastore, 1, 0, 0, 0)) (by with_unfolding_all rfl) rfl (n := 32) (by with_unfolding_all rfl) (by decide) h2).trans ?_
  exact eq_run 1 (q := (176, [.ref 31, .int x1, .int x2, .int x3, .int x4, .int x5, .int x6, .int x7], [], hp nS (am_up M 38 (x3 - 1).toNatClampNeg (1 - (M 38 (x3 - 1).toNatClampNeg))))) (by with_unfolding_all rfl)
set_option maxRecDepth 20000 in
theorem b_22_136 {d nS : Nat} {x1 x2 x3 x4 x5 x6 x7 : Int32} {M : am_M} {Q : Option Value → am_H → Prop} : am_Wp d 22 136 [.ref 31, .int x1, .int x2, .int x3, .int x4, .int x5, .int x6, .int x7] [] (hp nS M) Q = if ¬ x7 = 0 then am_Wp d 22 176 [.ref 31, .int x1, .int x2, .int x3, .int x4, .int x5, .int x6, .int x7] [] (hp nS M) Q else am_Wp d 22 141 [.ref 31, .int x1, .int x2, .int x3, .int x4, .int x5, .int x6, .int x7] [] (hp nS M) Q := by
  refine (eq_run 1 (q := (138, [.ref 31, .int x1, .int x2, .int x3, .int x4, .int x5, .int x6, .int x7], [.int x7], hp nS M)) (by with_unfolding_all rfl)).trans ?_
  exact eq_if_ne (by with_unfolding_all rfl)
set_option maxRecDepth 20000 in
theorem b_22_141 {d nS : Nat} {x1 x2 x3 x4 x5 x6 x7 : Int32} {M : am_M} {Q : Option Value → am_H → Prop} : am_Wp d 22 141 [.ref 31, .int x1, .int x2, .int x3, .int x4, .int x5, .int x6, .int x7] [] (hp nS M) Q = if x3 < 2 then am_Wp d 22 176 [.ref 31, .int x1, .int x2, .int x3, .int x4, .int x5, .int x6, .int x7] [] (hp nS M) Q else am_Wp d 22 146 [.ref 31, .int x1, .int x2, .int x3, .int x4, .int x5, .int x6, .int x7] [] (hp nS M) Q := by
  refine (eq_run 2 (q := (143, [.ref 31, .int x1, .int x2, .int x3, .int x4, .int x5, .int x6, .int x7], [.int 2, .int x3], hp nS M)) (by with_unfolding_all rfl)).trans ?_
  exact eq_cmp_lt (by with_unfolding_all rfl)
set_option maxRecDepth 20000 in
theorem b_22_146 {d nS : Nat} {x1 x2 x3 x4 x5 x6 x7 : Int32} {M : am_M} {Q : Option Value → am_H → Prop} (h1 : vp_in ((x3 + (-1)) - 1) 32) (h2 : vp_in (x3 + (-1)) 32) : am_Wp (d + 1) 22 146 [.ref 31, .int x1, .int x2, .int x3, .int x4, .int x5, .int x6, .int x7] [] (hp nS M) Q = am_Wp d 23 0 [.int x6, .int (M 38 ((x3 + (-1)) - 1).toNatClampNeg), .int (M 38 (x3 + (-1)).toNatClampNeg)] [] (hp nS M) (fun v h1 => am_Wp (d + 1) 22 175 [.ref 31, .int x1, .int x2, .int (x3 + (-1)), .int x4, .int x5, .int x6, .int x7] (am_ans v [.int ((x3 + (-1)) - 1), .ref 38]) h1 Q) := by
  refine (eq_run 12 (q := (165, [.ref 31, .int x1, .int x2, .int (x3 + (-1)), .int x4, .int x5, .int x6, .int x7], [.int ((x3 + (-1)) - 1), .ref 38, .int x6, .int ((x3 + (-1)) - 1), .ref 38], hp nS M)) (by with_unfolding_all rfl)).trans ?_
  refine (eq_ald (e := (.iaload, 1, 0, 0, 0)) (by with_unfolding_all rfl) rfl (n := 32) (by with_unfolding_all rfl) h1).trans ?_
  refine (eq_run 3 (q := (171, [.ref 31, .int x1, .int x2, .int (x3 + (-1)), .int x4, .int x5, .int x6, .int x7], [.int (x3 + (-1)), .ref 38, .int (M 38 ((x3 + (-1)) - 1).toNatClampNeg), .int x6, .int ((x3 + (-1)) - 1), .ref 38], hp nS M)) (by with_unfolding_all rfl)).trans ?_
  refine (eq_ald (e := (.iaload, 1, 0, 0, 0)) (by with_unfolding_all rfl) rfl (n := 32) (by with_unfolding_all rfl) h2).trans ?_
  exact eq_call2 (e := (.invokestatic 106, 3, 1, 23, 93)) (as := [.int x6, .int (M 38 ((x3 + (-1)) - 1).toNatClampNeg), .int (M 38 (x3 + (-1)).toNatClampNeg)]) (r := [.int ((x3 + (-1)) - 1), .ref 38]) (n := 3) (m := 3) (by with_unfolding_all rfl) rfl (by decide) (by with_unfolding_all rfl) (by decide) (by with_unfolding_all rfl) ⟨fun z => absurd z (by decide), fun z => by simp at z⟩
set_option maxRecDepth 20000 in
theorem b_22_175 {d nS : Nat} {x1 x2 x3 x4 x5 x6 x7 s1 s2 : Int32} {M : am_M} {Q : Option Value → am_H → Prop} (h1 : vp_in s1 32) : am_Wp d 22 175 [.ref 31, .int x1, .int x2, .int x3, .int x4, .int x5, .int x6, .int x7] [.int s2, .int s1, .ref 38] (hp nS M) Q = am_Wp d 22 176 [.ref 31, .int x1, .int x2, .int x3, .int x4, .int x5, .int x6, .int x7] [] (hp nS (am_up M 38 s1.toNatClampNeg s2)) Q := by
  exact eq_ast (e := (.iastore, 1, 0, 0, 0)) (by with_unfolding_all rfl) rfl (n := 32) (by with_unfolding_all rfl) (by decide) h1
set_option maxRecDepth 20000 in
theorem b_22_176 {d nS : Nat} {x1 x2 x3 x4 x5 x6 x7 : Int32} {M : am_M} {Q : Option Value → am_H → Prop} : am_Wp d 22 176 [.ref 31, .int x1, .int x2, .int x3, .int x4, .int x5, .int x6, .int x7] [] (hp nS M) Q = am_Wp d 22 5 [.ref 31, .int x1, .int x2, .int x3, .int (x4 + 1), .int x5, .int x6, .int x7] [] (hp nS M) Q := by
  exact eq_run 2 (q := (5, [.ref 31, .int x1, .int x2, .int x3, .int (x4 + 1), .int x5, .int x6, .int x7], [], hp nS M)) (by with_unfolding_all rfl)
set_option maxRecDepth 20000 in
theorem b_22_182 {d nS : Nat} {x1 x2 x3 x4 : Int32} {zx5 zx6 zx7 : Value} {M : am_M} {Q : Option Value → am_H → Prop} : am_Wp d 22 182 [.ref 31, .int x1, .int x2, .int x3, .int x4, zx5, zx6, zx7] [] (hp nS M) Q = Q (some (.int (M 38 0))) (hp nS M) := by
  refine (eq_run 4 (q := (188, [.ref 31, .int x1, .int x2, .int x3, .int x4, zx5, zx6, zx7], [.int (M 38 0)], hp nS M)) (by with_unfolding_all rfl)).trans ?_
  exact eq_retI2 (e := (.ireturn, 1, 0, 0, 0)) (t := .int) (by with_unfolding_all rfl) rfl (by with_unfolding_all rfl) rfl
