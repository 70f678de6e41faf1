-- LarkExchange of(II)I (137, (16, None, None))
set_option maxRecDepth 20000 in
theorem b_137_0 {d nS : Nat} {x1 x2 : Int32} {M : am_M} {Q : Option Value → am_H → Prop} : am_Wp (d + 1) 137 0 [.ref 16, .int x1, .int x2, .retAddr 0] [] (hp nS M) Q = am_Wp d 104 0 [.ref 18, .int x1] [] (hp nS M) (fun v h1 => am_Wp (d + 1) 137 13 [.ref 16, .int x1, .int x2, .ref 18] (am_ans v []) h1 Q) := by
  refine (eq_run 6 (q := (10, [.ref 16, .int x1, .int x2, .ref 18], [.int x1, .ref 18], hp nS M)) (by with_unfolding_all rfl)).trans ?_
  exact eq_call2 (e := (.invokevirtual 124, 3, 0, 104, 18)) (as := [.ref 18, .int x1]) (r := []) (n := 2) (m := 2) (by with_unfolding_all rfl) rfl (by decide) (by with_unfolding_all rfl) (by decide) (by with_unfolding_all rfl) ⟨fun _ => am_rec_ok (c := 12) (by with_unfolding_all rfl) (by decide +kernel), fun z => by simp at z⟩
set_option maxRecDepth 20000 in
theorem b_137_13 {d nS : Nat} {x1 x2 s0 : Int32} {M : am_M} {Q : Option Value → am_H → Prop} : am_Wp d 137 13 [.ref 16, .int x1, .int x2, .ref 18] [.int s0] (hp nS M) Q = if ¬ s0 = 0 then am_Wp d 137 18 [.ref 16, .int x1, .int x2, .ref 18] [] (hp nS M) Q else am_Wp d 137 16 [.ref 16, .int x1, .int x2, .ref 18] [] (hp nS M) Q := by
  exact eq_if_ne (by with_unfolding_all rfl)
set_option maxRecDepth 20000 in
theorem b_137_16 {d nS : Nat} {x1 x2 : Int32} {M : am_M} {Q : Option Value → am_H → Prop} : am_Wp d 137 16 [.ref 16, .int x1, .int x2, .ref 18] [] (hp nS M) Q = Q (some (.int (-1))) (hp nS M) := by
  refine (eq_run 1 (q := (17, [.ref 16, .int x1, .int x2, .ref 18], [.int (-1)], hp nS M)) (by with_unfolding_all rfl)).trans ?_
  exact eq_retI2 (e := (.ireturn, 1, 0, 0, 0)) (t := .int) (by with_unfolding_all rfl) rfl (by with_unfolding_all rfl) rfl
set_option maxRecDepth 20000 in
theorem b_137_18 {d nS : Nat} {x1 x2 : Int32} {M : am_M} {Q : Option Value → am_H → Prop} : am_Wp d 137 18 [.ref 16, .int x1, .int x2, .ref 18] [] (hp nS M) Q = if x2 = 0 then am_Wp d 137 64 [.ref 16, .int x1, .int x2, .ref 18] [] (hp nS M) Q else if x2 = 1 then am_Wp d 137 71 [.ref 16, .int x1, .int x2, .ref 18] [] (hp nS M) Q else if x2 = 2 then am_Wp d 137 78 [.ref 16, .int x1, .int x2, .ref 18] [] (hp nS M) Q else if x2 = 3 then am_Wp d 137 85 [.ref 16, .int x1, .int x2, .ref 18] [] (hp nS M) Q else if x2 = 4 then am_Wp d 137 92 [.ref 16, .int x1, .int x2, .ref 18] [] (hp nS M) Q else if x2 = 5 then am_Wp d 137 99 [.ref 16, .int x1, .int x2, .ref 18] [] (hp nS M) Q else if x2 = 6 then am_Wp d 137 115 [.ref 16, .int x1, .int x2, .ref 18] [] (hp nS M) Q else if x2 = 7 then am_Wp d 137 131 [.ref 16, .int x1, .int x2, .ref 18] [] (hp nS M) Q else am_Wp d 137 137 [.ref 16, .int x1, .int x2, .ref 18] [] (hp nS M) Q := by
  refine (eq_run 1 (q := (19, [.ref 16, .int x1, .int x2, .ref 18], [.int x2], hp nS M)) (by with_unfolding_all rfl)).trans ?_
  by_cases c0 : x2 = 0
  · subst c0; rw [if_pos rfl]; exact eq_run 1 (q := (64, [.ref 16, .int x1, .int 0, .ref 18], [], hp nS M)) (by with_unfolding_all rfl)
  rw [if_neg c0]
  by_cases c1 : x2 = 1
  · subst c1; rw [if_pos rfl]; exact eq_run 1 (q := (71, [.ref 16, .int x1, .int 1, .ref 18], [], hp nS M)) (by with_unfolding_all rfl)
  rw [if_neg c1]
  by_cases c2 : x2 = 2
  · subst c2; rw [if_pos rfl]; exact eq_run 1 (q := (78, [.ref 16, .int x1, .int 2, .ref 18], [], hp nS M)) (by with_unfolding_all rfl)
  rw [if_neg c2]
  by_cases c3 : x2 = 3
  · subst c3; rw [if_pos rfl]; exact eq_run 1 (q := (85, [.ref 16, .int x1, .int 3, .ref 18], [], hp nS M)) (by with_unfolding_all rfl)
  rw [if_neg c3]
  by_cases c4 : x2 = 4
  · subst c4; rw [if_pos rfl]; exact eq_run 1 (q := (92, [.ref 16, .int x1, .int 4, .ref 18], [], hp nS M)) (by with_unfolding_all rfl)
  rw [if_neg c4]
  by_cases c5 : x2 = 5
  · subst c5; rw [if_pos rfl]; exact eq_run 1 (q := (99, [.ref 16, .int x1, .int 5, .ref 18], [], hp nS M)) (by with_unfolding_all rfl)
  rw [if_neg c5]
  by_cases c6 : x2 = 6
  · subst c6; rw [if_pos rfl]; exact eq_run 1 (q := (115, [.ref 16, .int x1, .int 6, .ref 18], [], hp nS M)) (by with_unfolding_all rfl)
  rw [if_neg c6]
  by_cases c7 : x2 = 7
  · subst c7; rw [if_pos rfl]; exact eq_run 1 (q := (131, [.ref 16, .int x1, .int 7, .ref 18], [], hp nS M)) (by with_unfolding_all rfl)
  rw [if_neg c7]
  exact eq_tsw_def (by with_unfolding_all rfl) (by
    have e0 : ¬ x2.toInt = 0 := fun z => c0 (Int32.toInt_inj.mp (z.trans (by decide)))
    have e1 : ¬ x2.toInt = 1 := fun z => c1 (Int32.toInt_inj.mp (z.trans (by decide)))
    have e2 : ¬ x2.toInt = 2 := fun z => c2 (Int32.toInt_inj.mp (z.trans (by decide)))
    have e3 : ¬ x2.toInt = 3 := fun z => c3 (Int32.toInt_inj.mp (z.trans (by decide)))
    have e4 : ¬ x2.toInt = 4 := fun z => c4 (Int32.toInt_inj.mp (z.trans (by decide)))
    have e5 : ¬ x2.toInt = 5 := fun z => c5 (Int32.toInt_inj.mp (z.trans (by decide)))
    have e6 : ¬ x2.toInt = 6 := fun z => c6 (Int32.toInt_inj.mp (z.trans (by decide)))
    have e7 : ¬ x2.toInt = 7 := fun z => c7 (Int32.toInt_inj.mp (z.trans (by decide)))
    omega)
set_option maxRecDepth 20000 in
theorem b_137_64 {d nS : Nat} {x1 x2 : Int32} {M : am_M} {Q : Option Value → am_H → Prop} (h1 : vp_in x1 6) : am_Wp d 137 64 [.ref 16, .int x1, .int x2, .ref 18] [] (hp nS M) Q = Q (some (.int (M 19 x1.toNatClampNeg))) (hp nS M) := by
  refine (eq_run 3 (q := (69, [.ref 16, .int x1, .int x2, .ref 18], [.int x1, .ref 19], hp nS M)) (by with_unfolding_all rfl)).trans ?_
  refine (eq_ald (e := (.iaload, 1, 0, 0, 0)) (by with_unfolding_all rfl) rfl (n := 6) (by with_unfolding_all rfl) h1).trans ?_
  exact eq_retI2 (e := (.ireturn, 1, 0, 0, 0)) (t := .int) (by with_unfolding_all rfl) rfl (by with_unfolding_all rfl) rfl
set_option maxRecDepth 20000 in
theorem b_137_71 {d nS : Nat} {x1 x2 : Int32} {M : am_M} {Q : Option Value → am_H → Prop} (h1 : vp_in x1 6) : am_Wp d 137 71 [.ref 16, .int x1, .int x2, .ref 18] [] (hp nS M) Q = Q (some (.int (M 20 x1.toNatClampNeg))) (hp nS M) := by
  refine (eq_run 3 (q := (76, [.ref 16, .int x1, .int x2, .ref 18], [.int x1, .ref 20], hp nS M)) (by with_unfolding_all rfl)).trans ?_
  refine (eq_ald (e := (.iaload, 1, 0, 0, 0)) (by with_unfolding_all rfl) rfl (n := 6) (by with_unfolding_all rfl) h1).trans ?_
  exact eq_retI2 (e := (.ireturn, 1, 0, 0, 0)) (t := .int) (by with_unfolding_all rfl) rfl (by with_unfolding_all rfl) rfl
set_option maxRecDepth 20000 in
theorem b_137_78 {d nS : Nat} {x1 x2 : Int32} {M : am_M} {Q : Option Value → am_H → Prop} (h1 : vp_in x1 6) : am_Wp d 137 78 [.ref 16, .int x1, .int x2, .ref 18] [] (hp nS M) Q = Q (some (.int (M 21 x1.toNatClampNeg))) (hp nS M) := by
  refine (eq_run 3 (q := (83, [.ref 16, .int x1, .int x2, .ref 18], [.int x1, .ref 21], hp nS M)) (by with_unfolding_all rfl)).trans ?_
  refine (eq_ald (e := (.iaload, 1, 0, 0, 0)) (by with_unfolding_all rfl) rfl (n := 6) (by with_unfolding_all rfl) h1).trans ?_
  exact eq_retI2 (e := (.ireturn, 1, 0, 0, 0)) (t := .int) (by with_unfolding_all rfl) rfl (by with_unfolding_all rfl) rfl
set_option maxRecDepth 20000 in
theorem b_137_85 {d nS : Nat} {x1 x2 : Int32} {M : am_M} {Q : Option Value → am_H → Prop} (h1 : vp_in x1 6) : am_Wp d 137 85 [.ref 16, .int x1, .int x2, .ref 18] [] (hp nS M) Q = Q (some (.int (M 22 x1.toNatClampNeg))) (hp nS M) := by
  refine (eq_run 3 (q := (90, [.ref 16, .int x1, .int x2, .ref 18], [.int x1, .ref 22], hp nS M)) (by with_unfolding_all rfl)).trans ?_
  refine (eq_ald (e := (.iaload, 1, 0, 0, 0)) (by with_unfolding_all rfl) rfl (n := 6) (by with_unfolding_all rfl) h1).trans ?_
  exact eq_retI2 (e := (.ireturn, 1, 0, 0, 0)) (t := .int) (by with_unfolding_all rfl) rfl (by with_unfolding_all rfl) rfl
set_option maxRecDepth 20000 in
theorem b_137_92 {d nS : Nat} {x1 x2 : Int32} {M : am_M} {Q : Option Value → am_H → Prop} (h1 : vp_in x1 6) : am_Wp d 137 92 [.ref 16, .int x1, .int x2, .ref 18] [] (hp nS M) Q = Q (some (.int (M 23 x1.toNatClampNeg))) (hp nS M) := by
  refine (eq_run 3 (q := (97, [.ref 16, .int x1, .int x2, .ref 18], [.int x1, .ref 23], hp nS M)) (by with_unfolding_all rfl)).trans ?_
  refine (eq_ald (e := (.iaload, 1, 0, 0, 0)) (by with_unfolding_all rfl) rfl (n := 6) (by with_unfolding_all rfl) h1).trans ?_
  exact eq_retI2 (e := (.ireturn, 1, 0, 0, 0)) (t := .int) (by with_unfolding_all rfl) rfl (by with_unfolding_all rfl) rfl
set_option maxRecDepth 20000 in
theorem b_137_99 {d nS : Nat} {x1 x2 : Int32} {M : am_M} {Q : Option Value → am_H → Prop} : am_Wp (d + 1) 137 99 [.ref 16, .int x1, .int x2, .ref 18] [] (hp nS M) Q = am_Wp d 20 0 [.ref 31, .int 0, .ref 18, .int x1, .int (-1), .int 0, .retAddr 0, .retAddr 0] [] (hp nS M) (fun v h1 => am_Wp (d + 1) 137 114 [.ref 16, .int x1, .int x2, .ref 18] (am_ans v []) h1 Q) := by
  refine (eq_run 8 (q := (111, [.ref 16, .int x1, .int x2, .ref 18], [.int 0, .int (-1), .int x1, .ref 18, .int 0, .ref 31], hp nS M)) (by with_unfolding_all rfl)).trans ?_
  exact eq_call2 (e := (.invokevirtual 197, 3, 0, 20, 25)) (as := [.ref 31, .int 0, .ref 18, .int x1, .int (-1), .int 0]) (r := []) (n := 6) (m := 8) (by with_unfolding_all rfl) rfl (by decide) (by with_unfolding_all rfl) (by decide) (by with_unfolding_all rfl) ⟨fun _ => am_rec_ok (c := 5) (by with_unfolding_all rfl) (by decide +kernel), fun z => by simp at z⟩
set_option maxRecDepth 20000 in
theorem b_137_114 {d nS : Nat} {x1 x2 s0 : Int32} {M : am_M} {Q : Option Value → am_H → Prop} : am_Wp d 137 114 [.ref 16, .int x1, .int x2, .ref 18] [.int s0] (hp nS M) Q = Q (some (.int s0)) (hp nS M) := by
  exact eq_retI2 (e := (.ireturn, 1, 0, 0, 0)) (t := .int) (by with_unfolding_all rfl) rfl (by with_unfolding_all rfl) rfl
set_option maxRecDepth 20000 in
theorem b_137_115 {d nS : Nat} {x1 x2 : Int32} {M : am_M} {Q : Option Value → am_H → Prop} : am_Wp (d + 1) 137 115 [.ref 16, .int x1, .int x2, .ref 18] [] (hp nS M) Q = am_Wp d 20 0 [.ref 31, .int 1, .ref 18, .int x1, .int (-1), .int 0, .retAddr 0, .retAddr 0] [] (hp nS M) (fun v h1 => am_Wp (d + 1) 137 130 [.ref 16, .int x1, .int x2, .ref 18] (am_ans v []) h1 Q) := by
  refine (eq_run 8 (q := (127, [.ref 16, .int x1, .int x2, .ref 18], [.int 0, .int (-1), .int x1, .ref 18, .int 1, .ref 31], hp nS M)) (by with_unfolding_all rfl)).trans ?_
  exact eq_call2 (e := (.invokevirtual 197, 3, 0, 20, 25)) (as := [.ref 31, .int 1, .ref 18, .int x1, .int (-1), .int 0]) (r := []) (n := 6) (m := 8) (by with_unfolding_all rfl) rfl (by decide) (by with_unfolding_all rfl) (by decide) (by with_unfolding_all rfl) ⟨fun _ => am_rec_ok (c := 5) (by with_unfolding_all rfl) (by decide +kernel), fun z => by simp at z⟩
set_option maxRecDepth 20000 in
theorem b_137_130 {d nS : Nat} {x1 x2 s0 : Int32} {M : am_M} {Q : Option Value → am_H → Prop} : am_Wp d 137 130 [.ref 16, .int x1, .int x2, .ref 18] [.int s0] (hp nS M) Q = Q (some (.int s0)) (hp nS M) := by
  exact eq_retI2 (e := (.ireturn, 1, 0, 0, 0)) (t := .int) (by with_unfolding_all rfl) rfl (by with_unfolding_all rfl) rfl
set_option maxRecDepth 20000 in
theorem b_137_131 {d nS : Nat} {x1 x2 : Int32} {M : am_M} {Q : Option Value → am_H → Prop} : am_Wp (d + 1) 137 131 [.ref 16, .int x1, .int x2, .ref 18] [] (hp nS M) Q = am_Wp d 119 0 [.ref 18, .int x1, .retAddr 0, .retAddr 0] [] (hp nS M) (fun v h1 => am_Wp (d + 1) 137 136 [.ref 16, .int x1, .int x2, .ref 18] (am_ans v []) h1 Q) := by
  refine (eq_run 2 (q := (133, [.ref 16, .int x1, .int x2, .ref 18], [.int x1, .ref 18], hp nS M)) (by with_unfolding_all rfl)).trans ?_
  exact eq_call2 (e := (.invokevirtual 201, 3, 0, 119, 26)) (as := [.ref 18, .int x1]) (r := []) (n := 2) (m := 4) (by with_unfolding_all rfl) rfl (by decide) (by with_unfolding_all rfl) (by decide) (by with_unfolding_all rfl) ⟨fun _ => am_rec_ok (c := 12) (by with_unfolding_all rfl) (by decide +kernel), fun z => by simp at z⟩
set_option maxRecDepth 20000 in
theorem b_137_136 {d nS : Nat} {x1 x2 s0 : Int32} {M : am_M} {Q : Option Value → am_H → Prop} : am_Wp d 137 136 [.ref 16, .int x1, .int x2, .ref 18] [.int s0] (hp nS M) Q = Q (some (.int s0)) (hp nS M) := by
  exact eq_retI2 (e := (.ireturn, 1, 0, 0, 0)) (t := .int) (by with_unfolding_all rfl) rfl (by with_unfolding_all rfl) rfl
set_option maxRecDepth 20000 in
theorem b_137_137 {d nS : Nat} {x1 x2 : Int32} {M : am_M} {Q : Option Value → am_H → Prop} : am_Wp d 137 137 [.ref 16, .int x1, .int x2, .ref 18] [] (hp nS M) Q = Q (some (.int (-1))) (hp nS M) := by
  refine (eq_run 1 (q := (138, [.ref 16, .int x1, .int x2, .ref 18], [.int (-1)], hp nS M)) (by with_unfolding_all rfl)).trans ?_
  exact eq_retI2 (e := (.ireturn, 1, 0, 0, 0)) (t := .int) (by with_unfolding_all rfl) rfl (by with_unfolding_all rfl) rfl
-- LarkExchange goodOf(II)I (138, (16, None, None))
set_option maxRecDepth 20000 in
theorem b_138_0 {d nS : Nat} {x1 x2 : Int32} {M : am_M} {Q : Option Value → am_H → Prop} : am_Wp (d + 1) 138 0 [.ref 16, .int x1, .int x2, .retAddr 0] [] (hp nS M) Q = am_Wp d 106 0 [.ref 18, .int x1] [] (hp nS M) (fun v h1 => am_Wp (d + 1) 138 13 [.ref 16, .int x1, .int x2, .ref 18] (am_ans v []) h1 Q) := by
  refine (eq_run 6 (q := (10, [.ref 16, .int x1, .int x2, .ref 18], [.int x1, .ref 18], hp nS M)) (by with_unfolding_all rfl)).trans ?_
  exact eq_call2 (e := (.invokevirtual 205, 3, 0, 106, 27)) (as := [.ref 18, .int x1]) (r := []) (n := 2) (m := 2) (by with_unfolding_all rfl) rfl (by decide) (by with_unfolding_all rfl) (by decide) (by with_unfolding_all rfl) ⟨fun _ => am_rec_ok (c := 12) (by with_unfolding_all rfl) (by decide +kernel), fun z => by simp at z⟩
set_option maxRecDepth 20000 in
theorem b_138_13 {d nS : Nat} {x1 x2 s0 : Int32} {M : am_M} {Q : Option Value → am_H → Prop} : am_Wp d 138 13 [.ref 16, .int x1, .int x2, .ref 18] [.int s0] (hp nS M) Q = if ¬ s0 = 0 then am_Wp d 138 19 [.ref 16, .int x1, .int x2, .ref 18] [] (hp nS M) Q else am_Wp d 138 16 [.ref 16, .int x1, .int x2, .ref 18] [] (hp nS M) Q := by
  exact eq_if_ne (by with_unfolding_all rfl)
set_option maxRecDepth 20000 in
theorem b_138_16 {d nS : Nat} {x1 x2 : Int32} {M : am_M} {Q : Option Value → am_H → Prop} : am_Wp d 138 16 [.ref 16, .int x1, .int x2, .ref 18] [] (hp nS M) Q = Q (some (.int (-2))) (hp nS M) := by
  refine (eq_run 1 (q := (18, [.ref 16, .int x1, .int x2, .ref 18], [.int (-2)], hp nS M)) (by with_unfolding_all rfl)).trans ?_
  exact eq_retI2 (e := (.ireturn, 1, 0, 0, 0)) (t := .int) (by with_unfolding_all rfl) rfl (by with_unfolding_all rfl) rfl
set_option maxRecDepth 20000 in
theorem b_138_19 {d nS : Nat} {x1 x2 : Int32} {M : am_M} {Q : Option Value → am_H → Prop} : am_Wp d 138 19 [.ref 16, .int x1, .int x2, .ref 18] [] (hp nS M) Q = if x2 = 0 then am_Wp d 138 56 [.ref 16, .int x1, .int x2, .ref 18] [] (hp nS M) Q else if x2 = 1 then am_Wp d 138 63 [.ref 16, .int x1, .int x2, .ref 18] [] (hp nS M) Q else if x2 = 2 then am_Wp d 138 70 [.ref 16, .int x1, .int x2, .ref 18] [] (hp nS M) Q else if x2 = 3 then am_Wp d 138 77 [.ref 16, .int x1, .int x2, .ref 18] [] (hp nS M) Q else if x2 = 4 then am_Wp d 138 98 [.ref 16, .int x1, .int x2, .ref 18] [] (hp nS M) Q else am_Wp d 138 104 [.ref 16, .int x1, .int x2, .ref 18] [] (hp nS M) Q := by
  refine (eq_run 1 (q := (20, [.ref 16, .int x1, .int x2, .ref 18], [.int x2], hp nS M)) (by with_unfolding_all rfl)).trans ?_
  by_cases c0 : x2 = 0
  · subst c0; rw [if_pos rfl]; exact eq_run 1 (q := (56, [.ref 16, .int x1, .int 0, .ref 18], [], hp nS M)) (by with_unfolding_all rfl)
  rw [if_neg c0]
  by_cases c1 : x2 = 1
  · subst c1; rw [if_pos rfl]; exact eq_run 1 (q := (63, [.ref 16, .int x1, .int 1, .ref 18], [], hp nS M)) (by with_unfolding_all rfl)
  rw [if_neg c1]
  by_cases c2 : x2 = 2
  · subst c2; rw [if_pos rfl]; exact eq_run 1 (q := (70, [.ref 16, .int x1, .int 2, .ref 18], [], hp nS M)) (by with_unfolding_all rfl)
  rw [if_neg c2]
  by_cases c3 : x2 = 3
  · subst c3; rw [if_pos rfl]; exact eq_run 1 (q := (77, [.ref 16, .int x1, .int 3, .ref 18], [], hp nS M)) (by with_unfolding_all rfl)
  rw [if_neg c3]
  by_cases c4 : x2 = 4
  · subst c4; rw [if_pos rfl]; exact eq_run 1 (q := (98, [.ref 16, .int x1, .int 4, .ref 18], [], hp nS M)) (by with_unfolding_all rfl)
  rw [if_neg c4]
  exact eq_tsw_def (by with_unfolding_all rfl) (by
    have e0 : ¬ x2.toInt = 0 := fun z => c0 (Int32.toInt_inj.mp (z.trans (by decide)))
    have e1 : ¬ x2.toInt = 1 := fun z => c1 (Int32.toInt_inj.mp (z.trans (by decide)))
    have e2 : ¬ x2.toInt = 2 := fun z => c2 (Int32.toInt_inj.mp (z.trans (by decide)))
    have e3 : ¬ x2.toInt = 3 := fun z => c3 (Int32.toInt_inj.mp (z.trans (by decide)))
    have e4 : ¬ x2.toInt = 4 := fun z => c4 (Int32.toInt_inj.mp (z.trans (by decide)))
    omega)
set_option maxRecDepth 20000 in
theorem b_138_56 {d nS : Nat} {x1 x2 : Int32} {M : am_M} {Q : Option Value → am_H → Prop} (h1 : vp_in x1 8) : am_Wp d 138 56 [.ref 16, .int x1, .int x2, .ref 18] [] (hp nS M) Q = Q (some (.int (M 24 x1.toNatClampNeg))) (hp nS M) := by
  refine (eq_run 3 (q := (61, [.ref 16, .int x1, .int x2, .ref 18], [.int x1, .ref 24], hp nS M)) (by with_unfolding_all rfl)).trans ?_
  refine (eq_ald (e := (.iaload, 1, 0, 0, 0)) (by with_unfolding_all rfl) rfl (n := 8) (by with_unfolding_all rfl) h1).trans ?_
  exact eq_retI2 (e := (.ireturn, 1, 0, 0, 0)) (t := .int) (by with_unfolding_all rfl) rfl (by with_unfolding_all rfl) rfl
set_option maxRecDepth 20000 in
theorem b_138_63 {d nS : Nat} {x1 x2 : Int32} {M : am_M} {Q : Option Value → am_H → Prop} (h1 : vp_in x1 8) : am_Wp d 138 63 [.ref 16, .int x1, .int x2, .ref 18] [] (hp nS M) Q = Q (some (.int (M 25 x1.toNatClampNeg))) (hp nS M) := by
  refine (eq_run 3 (q := (68, [.ref 16, .int x1, .int x2, .ref 18], [.int x1, .ref 25], hp nS M)) (by with_unfolding_all rfl)).trans ?_
  refine (eq_ald (e := (.iaload, 1, 0, 0, 0)) (by with_unfolding_all rfl) rfl (n := 8) (by with_unfolding_all rfl) h1).trans ?_
  exact eq_retI2 (e := (.ireturn, 1, 0, 0, 0)) (t := .int) (by with_unfolding_all rfl) rfl (by with_unfolding_all rfl) rfl
set_option maxRecDepth 20000 in
theorem b_138_70 {d nS : Nat} {x1 x2 : Int32} {M : am_M} {Q : Option Value → am_H → Prop} (h1 : vp_in x1 8) : am_Wp d 138 70 [.ref 16, .int x1, .int x2, .ref 18] [] (hp nS M) Q = Q (some (.int (M 26 x1.toNatClampNeg))) (hp nS M) := by
  refine (eq_run 3 (q := (75, [.ref 16, .int x1, .int x2, .ref 18], [.int x1, .ref 26], hp nS M)) (by with_unfolding_all rfl)).trans ?_
  refine (eq_ald (e := (.iaload, 1, 0, 0, 0)) (by with_unfolding_all rfl) rfl (n := 8) (by with_unfolding_all rfl) h1).trans ?_
  exact eq_retI2 (e := (.ireturn, 1, 0, 0, 0)) (t := .int) (by with_unfolding_all rfl) rfl (by with_unfolding_all rfl) rfl
set_option maxRecDepth 20000 in
theorem b_138_77 {d nS : Nat} {x1 x2 : Int32} {M : am_M} {Q : Option Value → am_H → Prop} (h1 : vp_in x1 8) : am_Wp (d + 1) 138 77 [.ref 16, .int x1, .int x2, .ref 18] [] (hp nS M) Q = am_Wp d 20 0 [.ref 31, .int 2, .ref 18, .int (M 25 x1.toNatClampNeg), .int x1, .int 0, .retAddr 0, .retAddr 0] [] (hp nS M) (fun v h1 => am_Wp (d + 1) 138 97 [.ref 16, .int x1, .int x2, .ref 18] (am_ans v []) h1 Q) := by
  refine (eq_run 8 (q := (91, [.ref 16, .int x1, .int x2, .ref 18], [.int x1, .ref 25, .ref 18, .int 2, .ref 31], hp nS M)) (by with_unfolding_all rfl)).trans ?_
  refine (eq_ald (e := (.iaload, 1, 0, 0, 0)) (by with_unfolding_all rfl) rfl (n := 8) (by with_unfolding_all rfl) h1).trans ?_
  refine (eq_run 2 (q := (94, [.ref 16, .int x1, .int x2, .ref 18], [.int 0, .int x1, .int (M 25 x1.toNatClampNeg), .ref 18, .int 2, .ref 31], hp nS M)) (by with_unfolding_all rfl)).trans ?_
  exact eq_call2 (e := (.invokevirtual 197, 3, 0, 20, 25)) (as := [.ref 31, .int 2, .ref 18, .int (M 25 x1.toNatClampNeg), .int x1, .int 0]) (r := []) (n := 6) (m := 8) (by with_unfolding_all rfl) rfl (by decide) (by with_unfolding_all rfl) (by decide) (by with_unfolding_all rfl) ⟨fun _ => am_rec_ok (c := 5) (by with_unfolding_all rfl) (by decide +kernel), fun z => by simp at z⟩
set_option maxRecDepth 20000 in
theorem b_138_97 {d nS : Nat} {x1 x2 s0 : Int32} {M : am_M} {Q : Option Value → am_H → Prop} : am_Wp d 138 97 [.ref 16, .int x1, .int x2, .ref 18] [.int s0] (hp nS M) Q = Q (some (.int s0)) (hp nS M) := by
  exact eq_retI2 (e := (.ireturn, 1, 0, 0, 0)) (t := .int) (by with_unfolding_all rfl) rfl (by with_unfolding_all rfl) rfl
set_option maxRecDepth 20000 in
theorem b_138_98 {d nS : Nat} {x1 x2 : Int32} {M : am_M} {Q : Option Value → am_H → Prop} : am_Wp (d + 1) 138 98 [.ref 16, .int x1, .int x2, .ref 18] [] (hp nS M) Q = am_Wp d 120 0 [.ref 18, .int x1, .retAddr 0, .retAddr 0] [] (hp nS M) (fun v h1 => am_Wp (d + 1) 138 103 [.ref 16, .int x1, .int x2, .ref 18] (am_ans v []) h1 Q) := by
  refine (eq_run 2 (q := (100, [.ref 16, .int x1, .int x2, .ref 18], [.int x1, .ref 18], hp nS M)) (by with_unfolding_all rfl)).trans ?_
  exact eq_call2 (e := (.invokevirtual 208, 3, 0, 120, 28)) (as := [.ref 18, .int x1]) (r := []) (n := 2) (m := 4) (by with_unfolding_all rfl) rfl (by decide) (by with_unfolding_all rfl) (by decide) (by with_unfolding_all rfl) ⟨fun _ => am_rec_ok (c := 12) (by with_unfolding_all rfl) (by decide +kernel), fun z => by simp at z⟩
set_option maxRecDepth 20000 in
theorem b_138_103 {d nS : Nat} {x1 x2 s0 : Int32} {M : am_M} {Q : Option Value → am_H → Prop} : am_Wp d 138 103 [.ref 16, .int x1, .int x2, .ref 18] [.int s0] (hp nS M) Q = Q (some (.int s0)) (hp nS M) := by
  exact eq_retI2 (e := (.ireturn, 1, 0, 0, 0)) (t := .int) (by with_unfolding_all rfl) rfl (by with_unfolding_all rfl) rfl
set_option maxRecDepth 20000 in
theorem b_138_104 {d nS : Nat} {x1 x2 : Int32} {M : am_M} {Q : Option Value → am_H → Prop} : am_Wp d 138 104 [.ref 16, .int x1, .int x2, .ref 18] [] (hp nS M) Q = Q (some (.int (-2))) (hp nS M) := by
  refine (eq_run 1 (q := (106, [.ref 16, .int x1, .int x2, .ref 18], [.int (-2)], hp nS M)) (by with_unfolding_all rfl)).trans ?_
  exact eq_retI2 (e := (.ireturn, 1, 0, 0, 0)) (t := .int) (by with_unfolding_all rfl) rfl (by with_unfolding_all rfl) rfl
-- LarkExchange who(II)I (139, (16, None, None))
set_option maxRecDepth 20000 in
theorem b_139_0 {d nS : Nat} {x1 x2 : Int32} {M : am_M} {Q : Option Value → am_H → Prop} : am_Wp (d + 1) 139 0 [.ref 16, .int x1, .int x2, .retAddr 0] [] (hp nS M) Q = am_Wp d 107 0 [.ref 18, .int x1] [] (hp nS M) (fun v h1 => am_Wp (d + 1) 139 13 [.ref 16, .int x1, .int x2, .ref 18] (am_ans v []) h1 Q) := by
  refine (eq_run 6 (q := (10, [.ref 16, .int x1, .int x2, .ref 18], [.int x1, .ref 18], hp nS M)) (by with_unfolding_all rfl)).trans ?_
  exact eq_call2 (e := (.invokevirtual 211, 3, 0, 107, 29)) (as := [.ref 18, .int x1]) (r := []) (n := 2) (m := 2) (by with_unfolding_all rfl) rfl (by decide) (by with_unfolding_all rfl) (by decide) (by with_unfolding_all rfl) ⟨fun _ => am_rec_ok (c := 12) (by with_unfolding_all rfl) (by decide +kernel), fun z => by simp at z⟩
set_option maxRecDepth 20000 in
theorem b_139_13 {d nS : Nat} {x1 x2 s0 : Int32} {M : am_M} {Q : Option Value → am_H → Prop} : am_Wp d 139 13 [.ref 16, .int x1, .int x2, .ref 18] [.int s0] (hp nS M) Q = if ¬ s0 = 0 then am_Wp d 139 19 [.ref 16, .int x1, .int x2, .ref 18] [] (hp nS M) Q else am_Wp d 139 16 [.ref 16, .int x1, .int x2, .ref 18] [] (hp nS M) Q := by
  exact eq_if_ne (by with_unfolding_all rfl)
set_option maxRecDepth 20000 in
theorem b_139_16 {d nS : Nat} {x1 x2 : Int32} {M : am_M} {Q : Option Value → am_H → Prop} : am_Wp d 139 16 [.ref 16, .int x1, .int x2, .ref 18] [] (hp nS M) Q = Q (some (.int (-10))) (hp nS M) := by
  refine (eq_run 1 (q := (18, [.ref 16, .int x1, .int x2, .ref 18], [.int (-10)], hp nS M)) (by with_unfolding_all rfl)).trans ?_
  exact eq_retI2 (e := (.ireturn, 1, 0, 0, 0)) (t := .int) (by with_unfolding_all rfl) rfl (by with_unfolding_all rfl) rfl
set_option maxRecDepth 20000 in
theorem b_139_19 {d nS : Nat} {x1 x2 : Int32} {M : am_M} {Q : Option Value → am_H → Prop} : am_Wp d 139 19 [.ref 16, .int x1, .int x2, .ref 18] [] (hp nS M) Q = if ¬ x2 = 0 then am_Wp d 139 30 [.ref 16, .int x1, .int x2, .ref 18] [] (hp nS M) Q else am_Wp d 139 23 [.ref 16, .int x1, .int x2, .ref 18] [] (hp nS M) Q := by
  refine (eq_run 1 (q := (20, [.ref 16, .int x1, .int x2, .ref 18], [.int x2], hp nS M)) (by with_unfolding_all rfl)).trans ?_
  exact eq_if_ne (by with_unfolding_all rfl)
set_option maxRecDepth 20000 in
theorem b_139_23 {d nS : Nat} {x1 x2 : Int32} {M : am_M} {Q : Option Value → am_H → Prop} (h1 : vp_in x1 10) : am_Wp d 139 23 [.ref 16, .int x1, .int x2, .ref 18] [] (hp nS M) Q = Q (some (.int (M 27 x1.toNatClampNeg))) (hp nS M) := by
  refine (eq_run 3 (q := (28, [.ref 16, .int x1, .int x2, .ref 18], [.int x1, .ref 27], hp nS M)) (by with_unfolding_all rfl)).trans ?_
  refine (eq_ald (e := (.iaload, 1, 0, 0, 0)) (by with_unfolding_all rfl) rfl (n := 10) (by with_unfolding_all rfl) h1).trans ?_
  exact eq_retI2 (e := (.ireturn, 1, 0, 0, 0)) (t := .int) (by with_unfolding_all rfl) rfl (by with_unfolding_all rfl) rfl
set_option maxRecDepth 20000 in
theorem b_139_30 {d nS : Nat} {x1 x2 : Int32} {M : am_M} {Q : Option Value → am_H → Prop} : am_Wp d 139 30 [.ref 16, .int x1, .int x2, .ref 18] [] (hp nS M) Q = if ¬ x2 = 1 then am_Wp d 139 42 [.ref 16, .int x1, .int x2, .ref 18] [] (hp nS M) Q else am_Wp d 139 35 [.ref 16, .int x1, .int x2, .ref 18] [] (hp nS M) Q := by
  refine (eq_run 2 (q := (32, [.ref 16, .int x1, .int x2, .ref 18], [.int 1, .int x2], hp nS M)) (by with_unfolding_all rfl)).trans ?_
  exact eq_cmp_ne (by with_unfolding_all rfl)
set_option maxRecDepth 20000 in
theorem b_139_35 {d nS : Nat} {x1 x2 : Int32} {M : am_M} {Q : Option Value → am_H → Prop} (h1 : vp_in x1 10) : am_Wp d 139 35 [.ref 16, .int x1, .int x2, .ref 18] [] (hp nS M) Q = Q (some (.int (M 28 x1.toNatClampNeg))) (hp nS M) := by
  refine (eq_run 3 (q := (40, [.ref 16, .int x1, .int x2, .ref 18], [.int x1, .ref 28], hp nS M)) (by with_unfolding_all rfl)).trans ?_
  refine (eq_ald (e := (.iaload, 1, 0, 0, 0)) (by with_unfolding_all rfl) rfl (n := 10) (by with_unfolding_all rfl) h1).trans ?_
  exact eq_retI2 (e := (.ireturn, 1, 0, 0, 0)) (t := .int) (by with_unfolding_all rfl) rfl (by with_unfolding_all rfl) rfl
set_option maxRecDepth 20000 in
theorem b_139_42 {d nS : Nat} {x1 x2 : Int32} {M : am_M} {Q : Option Value → am_H → Prop} : am_Wp d 139 42 [.ref 16, .int x1, .int x2, .ref 18] [] (hp nS M) Q = if ¬ x2 = 2 then am_Wp d 139 53 [.ref 16, .int x1, .int x2, .ref 18] [] (hp nS M) Q else am_Wp d 139 47 [.ref 16, .int x1, .int x2, .ref 18] [] (hp nS M) Q := by
  refine (eq_run 2 (q := (44, [.ref 16, .int x1, .int x2, .ref 18], [.int 2, .int x2], hp nS M)) (by with_unfolding_all rfl)).trans ?_
  exact eq_cmp_ne (by with_unfolding_all rfl)
set_option maxRecDepth 20000 in
theorem b_139_47 {d nS : Nat} {x1 x2 : Int32} {M : am_M} {Q : Option Value → am_H → Prop} : am_Wp (d + 1) 139 47 [.ref 16, .int x1, .int x2, .ref 18] [] (hp nS M) Q = am_Wp d 121 0 [.ref 18, .int x1, .retAddr 0, .retAddr 0] [] (hp nS M) (fun v h1 => am_Wp (d + 1) 139 52 [.ref 16, .int x1, .int x2, .ref 18] (am_ans v []) h1 Q) := by
  refine (eq_run 2 (q := (49, [.ref 16, .int x1, .int x2, .ref 18], [.int x1, .ref 18], hp nS M)) (by with_unfolding_all rfl)).trans ?_
  exact eq_call2 (e := (.invokevirtual 217, 3, 0, 121, 30)) (as := [.ref 18, .int x1]) (r := []) (n := 2) (m := 4) (by with_unfolding_all rfl) rfl (by decide) (by with_unfolding_all rfl) (by decide) (by with_unfolding_all rfl) ⟨fun _ => am_rec_ok (c := 12) (by with_unfolding_all rfl) (by decide +kernel), fun z => by simp at z⟩
set_option maxRecDepth 20000 in
theorem b_139_52 {d nS : Nat} {x1 x2 s0 : Int32} {M : am_M} {Q : Option Value → am_H → Prop} : am_Wp d 139 52 [.ref 16, .int x1, .int x2, .ref 18] [.int s0] (hp nS M) Q = Q (some (.int s0)) (hp nS M) := by
  exact eq_retI2 (e := (.ireturn, 1, 0, 0, 0)) (t := .int) (by with_unfolding_all rfl) rfl (by with_unfolding_all rfl) rfl
set_option maxRecDepth 20000 in
theorem b_139_53 {d nS : Nat} {x1 x2 : Int32} {M : am_M} {Q : Option Value → am_H → Prop} : am_Wp d 139 53 [.ref 16, .int x1, .int x2, .ref 18] [] (hp nS M) Q = if x2 < 10 then am_Wp d 139 82 [.ref 16, .int x1, .int x2, .ref 18] [] (hp nS M) Q else am_Wp d 139 59 [.ref 16, .int x1, .int x2, .ref 18] [] (hp nS M) Q := by
  refine (eq_run 2 (q := (56, [.ref 16, .int x1, .int x2, .ref 18], [.int 10, .int x2], hp nS M)) (by with_unfolding_all rfl)).trans ?_
  exact eq_cmp_lt (by with_unfolding_all rfl)
set_option maxRecDepth 20000 in
theorem b_139_59 {d nS : Nat} {x1 x2 : Int32} {M : am_M} {Q : Option Value → am_H → Prop} : am_Wp (d + 1) 139 59 [.ref 16, .int x1, .int x2, .ref 18] [] (hp nS M) Q = am_Wp d 106 0 [.ref 18, .int (x2 - 10)] [] (hp nS M) (fun v h1 => am_Wp (d + 1) 139 67 [.ref 16, .int x1, .int x2, .ref 18] (am_ans v []) h1 Q) := by
  refine (eq_run 4 (q := (64, [.ref 16, .int x1, .int x2, .ref 18], [.int (x2 - 10), .ref 18], hp nS M)) (by with_unfolding_all rfl)).trans ?_
  exact eq_call2 (e := (.invokevirtual 205, 3, 0, 106, 27)) (as := [.ref 18, .int (x2 - 10)]) (r := []) (n := 2) (m := 2) (by with_unfolding_all rfl) rfl (by decide) (by with_unfolding_all rfl) (by decide) (by with_unfolding_all rfl) ⟨fun _ => am_rec_ok (c := 12) (by with_unfolding_all rfl) (by decide +kernel), fun z => by simp at z⟩
set_option maxRecDepth 20000 in
theorem b_139_67 {d nS : Nat} {x1 x2 s0 : Int32} {M : am_M} {Q : Option Value → am_H → Prop} : am_Wp d 139 67 [.ref 16, .int x1, .int x2, .ref 18] [.int s0] (hp nS M) Q = if s0 = 0 then am_Wp d 139 82 [.ref 16, .int x1, .int x2, .ref 18] [] (hp nS M) Q else am_Wp d 139 70 [.ref 16, .int x1, .int x2, .ref 18] [] (hp nS M) Q := by
  exact eq_if_eq (by with_unfolding_all rfl)
set_option maxRecDepth 20000 in
theorem b_139_70 {d nS : Nat} {x1 x2 : Int32} {M : am_M} {Q : Option Value → am_H → Prop} : am_Wp (d + 1) 139 70 [.ref 16, .int x1, .int x2, .ref 18] [] (hp nS M) Q = am_Wp d 110 0 [.ref 18, .int x1, .int (x2 - 10)] [] (hp nS M) (fun v h1 => am_Wp (d + 1) 139 79 [.ref 16, .int x1, .int x2, .ref 18] (am_ans v []) h1 Q) := by
  refine (eq_run 5 (q := (76, [.ref 16, .int x1, .int x2, .ref 18], [.int (x2 - 10), .int x1, .ref 18], hp nS M)) (by with_unfolding_all rfl)).trans ?_
  exact eq_call2 (e := (.invokevirtual 121, 3, 0, 110, 17)) (as := [.ref 18, .int x1, .int (x2 - 10)]) (r := []) (n := 3) (m := 3) (by with_unfolding_all rfl) rfl (by decide) (by with_unfolding_all rfl) (by decide) (by with_unfolding_all rfl) ⟨fun _ => am_rec_ok (c := 12) (by with_unfolding_all rfl) (by decide +kernel), fun z => by simp at z⟩
set_option maxRecDepth 20000 in
theorem b_139_79 {d nS : Nat} {x1 x2 s0 : Int32} {M : am_M} {Q : Option Value → am_H → Prop} : am_Wp d 139 79 [.ref 16, .int x1, .int x2, .ref 18] [.int s0] (hp nS M) Q = am_Wp d 139 84 [.ref 16, .int x1, .int x2, .ref 18] [.int s0] (hp nS M) Q := by
  exact eq_run 1 (q := (84, [.ref 16, .int x1, .int x2, .ref 18], [.int s0], hp nS M)) (by with_unfolding_all rfl)
set_option maxRecDepth 20000 in
theorem b_139_82 {d nS : Nat} {x1 x2 : Int32} {M : am_M} {Q : Option Value → am_H → Prop} : am_Wp d 139 82 [.ref 16, .int x1, .int x2, .ref 18] [] (hp nS M) Q = am_Wp d 139 84 [.ref 16, .int x1, .int x2, .ref 18] [.int (-10)] (hp nS M) Q := by
  exact eq_run 1 (q := (84, [.ref 16, .int x1, .int x2, .ref 18], [.int (-10)], hp nS M)) (by with_unfolding_all rfl)
set_option maxRecDepth 20000 in
theorem b_139_84 {d nS : Nat} {x1 x2 s0 : Int32} {M : am_M} {Q : Option Value → am_H → Prop} : am_Wp d 139 84 [.ref 16, .int x1, .int x2, .ref 18] [.int s0] (hp nS M) Q = Q (some (.int s0)) (hp nS M) := by
  exact eq_retI2 (e := (.ireturn, 1, 0, 0, 0)) (t := .int) (by with_unfolding_all rfl) rfl (by with_unfolding_all rfl) rfl
-- LarkExchange book(II)I (140, (16, None, None))
set_option maxRecDepth 20000 in
theorem b_140_0 {d nS : Nat} {x1 x2 : Int32} {M : am_M} {Q : Option Value → am_H → Prop} : am_Wp (d + 1) 140 0 [.ref 16, .int x1, .int x2] [] (hp nS M) Q = am_Wp d 125 0 [.int x1, .int 0, .int ((M 18 6) - 1)] [] (hp nS M) (fun v h1 => am_Wp (d + 1) 140 17 [.ref 16, .int x1, .int x2] (am_ans v []) h1 Q) := by
  refine (eq_run 8 (q := (14, [.ref 16, .int x1, .int x2], [.int ((M 18 6) - 1), .int 0, .int x1], hp nS M)) (by with_unfolding_all rfl)).trans ?_
  exact eq_call2 (e := (.invokestatic 57, 3, 1, 125, 7)) (as := [.int x1, .int 0, .int ((M 18 6) - 1)]) (r := []) (n := 3) (m := 3) (by with_unfolding_all rfl) rfl (by decide) (by with_unfolding_all rfl) (by decide) (by with_unfolding_all rfl) ⟨fun z => absurd z (by decide), fun z => by simp at z⟩
set_option maxRecDepth 20000 in
theorem b_140_17 {d nS : Nat} {x1 x2 s0 : Int32} {M : am_M} {Q : Option Value → am_H → Prop} : am_Wp d 140 17 [.ref 16, .int x1, .int x2] [.int s0] (hp nS M) Q = if ¬ s0 = 0 then am_Wp d 140 29 [.ref 16, .int x1, .int x2] [] (hp nS M) Q else am_Wp d 140 20 [.ref 16, .int x1, .int x2] [] (hp nS M) Q := by
  exact eq_if_ne (by with_unfolding_all rfl)
set_option maxRecDepth 20000 in
theorem b_140_20 {d nS : Nat} {x1 x2 : Int32} {M : am_M} {Q : Option Value → am_H → Prop} : am_Wp (d + 1) 140 20 [.ref 16, .int x1, .int x2] [] (hp nS M) Q = am_Wp d 125 0 [.int x2, .int 0, .int 3] [] (hp nS M) (fun v h1 => am_Wp (d + 1) 140 26 [.ref 16, .int x1, .int x2] (am_ans v []) h1 Q) := by
  refine (eq_run 3 (q := (23, [.ref 16, .int x1, .int x2], [.int 3, .int 0, .int x2], hp nS M)) (by with_unfolding_all rfl)).trans ?_
  exact eq_call2 (e := (.invokestatic 57, 3, 1, 125, 7)) (as := [.int x2, .int 0, .int 3]) (r := []) (n := 3) (m := 3) (by with_unfolding_all rfl) rfl (by decide) (by with_unfolding_all rfl) (by decide) (by with_unfolding_all rfl) ⟨fun z => absurd z (by decide), fun z => by simp at z⟩
set_option maxRecDepth 20000 in
theorem b_140_26 {d nS : Nat} {x1 x2 s0 : Int32} {M : am_M} {Q : Option Value → am_H → Prop} : am_Wp d 140 26 [.ref 16, .int x1, .int x2] [.int s0] (hp nS M) Q = if s0 = 0 then am_Wp d 140 32 [.ref 16, .int x1, .int x2] [] (hp nS M) Q else am_Wp d 140 29 [.ref 16, .int x1, .int x2] [] (hp nS M) Q := by
  exact eq_if_eq (by with_unfolding_all rfl)
set_option maxRecDepth 20000 in
theorem b_140_29 {d nS : Nat} {x1 x2 : Int32} {M : am_M} {Q : Option Value → am_H → Prop} : am_Wp d 140 29 [.ref 16, .int x1, .int x2] [] (hp nS M) Q = Q (some (.int (-10))) (hp nS M) := by
  refine (eq_run 1 (q := (31, [.ref 16, .int x1, .int x2], [.int (-10)], hp nS M)) (by with_unfolding_all rfl)).trans ?_
  exact eq_retI2 (e := (.ireturn, 1, 0, 0, 0)) (t := .int) (by with_unfolding_all rfl) rfl (by with_unfolding_all rfl) rfl
set_option maxRecDepth 20000 in
theorem b_140_32 {d nS : Nat} {x1 x2 : Int32} {M : am_M} {Q : Option Value → am_H → Prop} (h1 : vp_in ((x1 * 4) + x2) 600) : am_Wp d 140 32 [.ref 16, .int x1, .int x2] [] (hp nS M) Q = Q (some (.int (M 30 ((x1 * 4) + x2).toNatClampNeg))) (hp nS M) := by
  refine (eq_run 8 (q := (44, [.ref 16, .int x1, .int x2], [.int ((x1 * 4) + x2), .ref 30], hp nS M)) (by with_unfolding_all rfl)).trans ?_
  refine (eq_ald (e := (.iaload, 1, 0, 0, 0)) (by with_unfolding_all rfl) rfl (n := 600) (by with_unfolding_all rfl) h1).trans ?_
  exact eq_retI2 (e := (.ireturn, 1, 0, 0, 0)) (t := .int) (by with_unfolding_all rfl) rfl (by with_unfolding_all rfl) rfl
-- LarkExchange goes(II)I (141, (16, None, None))
set_option maxRecDepth 20000 in
theorem b_141_0 {d nS : Nat} {x1 x2 : Int32} {M : am_M} {Q : Option Value → am_H → Prop} : am_Wp (d + 1) 141 0 [.ref 16, .int x1, .int x2, .retAddr 0] [] (hp nS M) Q = am_Wp d 125 0 [.int x1, .int 1, .int 60] [] (hp nS M) (fun v h1 => am_Wp (d + 1) 141 7 [.ref 16, .int x1, .int x2, .retAddr 0] (am_ans v []) h1 Q) := by
  refine (eq_run 3 (q := (4, [.ref 16, .int x1, .int x2, .retAddr 0], [.int 60, .int 1, .int x1], hp nS M)) (by with_unfolding_all rfl)).trans ?_
  exact eq_call2 (e := (.invokestatic 57, 3, 1, 125, 7)) (as := [.int x1, .int 1, .int 60]) (r := []) (n := 3) (m := 3) (by with_unfolding_all rfl) rfl (by decide) (by with_unfolding_all rfl) (by decide) (by with_unfolding_all rfl) ⟨fun z => absurd z (by decide), fun z => by simp at z⟩
set_option maxRecDepth 20000 in
theorem b_141_7 {d nS : Nat} {x1 x2 s0 : Int32} {M : am_M} {Q : Option Value → am_H → Prop} : am_Wp d 141 7 [.ref 16, .int x1, .int x2, .retAddr 0] [.int s0] (hp nS M) Q = if ¬ s0 = 0 then am_Wp d 141 19 [.ref 16, .int x1, .int x2, .retAddr 0] [] (hp nS M) Q else am_Wp d 141 10 [.ref 16, .int x1, .int x2, .retAddr 0] [] (hp nS M) Q := by
  exact eq_if_ne (by with_unfolding_all rfl)
set_option maxRecDepth 20000 in
theorem b_141_10 {d nS : Nat} {x1 x2 : Int32} {M : am_M} {Q : Option Value → am_H → Prop} : am_Wp (d + 1) 141 10 [.ref 16, .int x1, .int x2, .retAddr 0] [] (hp nS M) Q = am_Wp d 125 0 [.int x2, .int 0, .int 3] [] (hp nS M) (fun v h1 => am_Wp (d + 1) 141 16 [.ref 16, .int x1, .int x2, .retAddr 0] (am_ans v []) h1 Q) := by
  refine (eq_run 3 (q := (13, [.ref 16, .int x1, .int x2, .retAddr 0], [.int 3, .int 0, .int x2], hp nS M)) (by with_unfolding_all rfl)).trans ?_
  exact eq_call2 (e := (.invokestatic 57, 3, 1, 125, 7)) (as := [.int x2, .int 0, .int 3]) (r := []) (n := 3) (m := 3) (by with_unfolding_all rfl) rfl (by decide) (by with_unfolding_all rfl) (by decide) (by with_unfolding_all rfl) ⟨fun z => absurd z (by decide), fun z => by simp at z⟩
set_option maxRecDepth 20000 in
theorem b_141_16 {d nS : Nat} {x1 x2 s0 : Int32} {M : am_M} {Q : Option Value → am_H → Prop} : am_Wp d 141 16 [.ref 16, .int x1, .int x2, .retAddr 0] [.int s0] (hp nS M) Q = if s0 = 0 then am_Wp d 141 22 [.ref 16, .int x1, .int x2, .retAddr 0] [] (hp nS M) Q else am_Wp d 141 19 [.ref 16, .int x1, .int x2, .retAddr 0] [] (hp nS M) Q := by
  exact eq_if_eq (by with_unfolding_all rfl)
set_option maxRecDepth 20000 in
theorem b_141_19 {d nS : Nat} {x1 x2 : Int32} {M : am_M} {Q : Option Value → am_H → Prop} : am_Wp d 141 19 [.ref 16, .int x1, .int x2, .retAddr 0] [] (hp nS M) Q = Q (some (.int (-100))) (hp nS M) := by
  refine (eq_run 1 (q := (21, [.ref 16, .int x1, .int x2, .retAddr 0], [.int (-100)], hp nS M)) (by with_unfolding_all rfl)).trans ?_
  exact eq_retI2 (e := (.ireturn, 1, 0, 0, 0)) (t := .int) (by with_unfolding_all rfl) rfl (by with_unfolding_all rfl) rfl
set_option maxRecDepth 20000 in
theorem b_141_22 {d nS : Nat} {x1 x2 : Int32} {M : am_M} {Q : Option Value → am_H → Prop} : am_Wp (d + 1) 141 22 [.ref 16, .int x1, .int x2, .retAddr 0] [] (hp nS M) Q = am_Wp d 111 0 [.ref 101, .ref 18] [] (hp nS M) (fun v h1 => am_Wp (d + 1) 141 36 [.ref 16, .int x1, .int x2, .retAddr 0] (am_ans v []) h1 Q) := by
  refine (eq_run 5 (q := (33, [.ref 16, .int x1, .int x2, .retAddr 0], [.ref 18, .ref 101], hp nS M)) (by with_unfolding_all rfl)).trans ?_
  exact eq_call2 (e := (.invokevirtual 226, 3, 0, 111, 31)) (as := [.ref 101, .ref 18]) (r := []) (n := 2) (m := 2) (by with_unfolding_all rfl) rfl (by decide) (by with_unfolding_all rfl) (by decide) (by with_unfolding_all rfl) ⟨fun _ => am_rec_ok (c := 12) (by with_unfolding_all rfl) (by decide +kernel), fun z => by simp at z⟩
set_option maxRecDepth 20000 in
theorem b_141_36 {d nS : Nat} {x1 x2 : Int32} {M : am_M} {Q : Option Value → am_H → Prop} : am_Wp d 141 36 [.ref 16, .int x1, .int x2, .retAddr 0] [] (hp nS M) Q = am_Wp d 141 38 [.ref 16, .int x1, .int x2, .int 0] [] (hp nS M) Q := by
  exact eq_run 2 (q := (38, [.ref 16, .int x1, .int x2, .int 0], [], hp nS M)) (by with_unfolding_all rfl)
set_option maxRecDepth 20000 in
theorem b_141_38 {d nS : Nat} {x1 x2 x3 : Int32} {M : am_M} {Q : Option Value → am_H → Prop} : am_Wp d 141 38 [.ref 16, .int x1, .int x2, .int x3] [] (hp nS M) Q = if x1 ≤ x3 then am_Wp d 141 62 [.ref 16, .int x1, .int x2, .int x3] [] (hp nS M) Q else am_Wp d 141 43 [.ref 16, .int x1, .int x2, .int x3] [] (hp nS M) Q := by
  refine (eq_run 2 (q := (40, [.ref 16, .int x1, .int x2, .int x3], [.int x1, .int x3], hp nS M)) (by with_unfolding_all rfl)).trans ?_
  exact eq_cmp_ge (by with_unfolding_all rfl)
set_option maxRecDepth 20000 in
theorem b_141_43 {d nS : Nat} {x1 x2 x3 : Int32} {M : am_M} {Q : Option Value → am_H → Prop} : am_Wp (d + 1) 141 43 [.ref 16, .int x1, .int x2, .int x3] [] (hp nS M) Q = am_Wp d 95 0 [.ref 17, .ref 101, .int 0, .retAddr 0, .retAddr 0] [] (hp nS M) (fun v h1 => am_Wp (d + 1) 141 55 [.ref 16, .int x1, .int x2, .int x3] (am_ans v []) h1 Q) := by
  refine (eq_run 5 (q := (52, [.ref 16, .int x1, .int x2, .int x3], [.int 0, .ref 101, .ref 17], hp nS M)) (by with_unfolding_all rfl)).trans ?_
  exact eq_call2 (e := (.invokevirtual 134, 3, 0, 95, 19)) (as := [.ref 17, .ref 101, .int 0]) (r := []) (n := 3) (m := 5) (by with_unfolding_all rfl) rfl (by decide) (by with_unfolding_all rfl) (by decide) (by with_unfolding_all rfl) ⟨fun _ => am_rec_ok (c := 11) (by with_unfolding_all rfl) (by decide +kernel), fun z => by simp at z⟩
set_option maxRecDepth 20000 in
theorem b_141_55 {d nS : Nat} {x1 x2 x3 s0 : Int32} {M : am_M} {Q : Option Value → am_H → Prop} : am_Wp d 141 55 [.ref 16, .int x1, .int x2, .int x3] [.int s0] (hp nS M) Q = am_Wp d 141 38 [.ref 16, .int x1, .int x2, .int (x3 + 1)] [] (hp nS M) Q := by
  exact eq_run 3 (q := (38, [.ref 16, .int x1, .int x2, .int (x3 + 1)], [], hp nS M)) (by with_unfolding_all rfl)
set_option maxRecDepth 20000 in
theorem b_141_62 {d nS : Nat} {x1 x2 x3 : Int32} {M : am_M} {Q : Option Value → am_H → Prop} : am_Wp d 141 62 [.ref 16, .int x1, .int x2, .int x3] [] (hp nS M) Q = if x2 = 0 then am_Wp d 141 88 [.ref 16, .int x1, .int x2, .int x3] [] (hp nS M) Q else if x2 = 1 then am_Wp d 141 106 [.ref 16, .int x1, .int x2, .int x3] [] (hp nS M) Q else if x2 = 2 then am_Wp d 141 124 [.ref 16, .int x1, .int x2, .int x3] [] (hp nS M) Q else am_Wp d 141 142 [.ref 16, .int x1, .int x2, .int x3] [] (hp nS M) Q := by
  refine (eq_run 1 (q := (63, [.ref 16, .int x1, .int x2, .int x3], [.int x2], hp nS M)) (by with_unfolding_all rfl)).trans ?_
  by_cases c0 : x2 = 0
  · subst c0; rw [if_pos rfl]; exact eq_run 1 (q := (88, [.ref 16, .int x1, .int 0, .int x3], [], hp nS M)) (by with_unfolding_all rfl)
  rw [if_neg c0]
  by_cases c1 : x2 = 1
  · subst c1; rw [if_pos rfl]; exact eq_run 1 (q := (106, [.ref 16, .int x1, .int 1, .int x3], [], hp nS M)) (by with_unfolding_all rfl)
  rw [if_neg c1]
  by_cases c2 : x2 = 2
  · subst c2; rw [if_pos rfl]; exact eq_run 1 (q := (124, [.ref 16, .int x1, .int 2, .int x3], [], hp nS M)) (by with_unfolding_all rfl)
  rw [if_neg c2]
  exact eq_tsw_def (by with_unfolding_all rfl) (by
    have e0 : ¬ x2.toInt = 0 := fun z => c0 (Int32.toInt_inj.mp (z.trans (by decide)))
    have e1 : ¬ x2.toInt = 1 := fun z => c1 (Int32.toInt_inj.mp (z.trans (by decide)))
    have e2 : ¬ x2.toInt = 2 := fun z => c2 (Int32.toInt_inj.mp (z.trans (by decide)))
    omega)
set_option maxRecDepth 20000 in
theorem b_141_88 {d nS : Nat} {x1 x2 x3 : Int32} {M : am_M} {Q : Option Value → am_H → Prop} : am_Wp (d + 1) 141 88 [.ref 16, .int x1, .int x2, .int x3] [] (hp nS M) Q = am_Wp d 142 0 [.ref 109, .int (M 101 1), .retAddr 0, .retAddr 0] [] (hp nS M) (fun v h1 => am_Wp (d + 1) 141 105 [.ref 16, .int x1, .int x2, .int x3] (am_ans v []) h1 Q) := by
  refine (eq_run 6 (q := (102, [.ref 16, .int x1, .int x2, .int x3], [.int (M 101 1), .ref 109], hp nS M)) (by with_unfolding_all rfl)).trans ?_
  exact eq_call2 (e := (.invokestatic 228, 3, 1, 142, 32)) (as := [.ref 109, .int (M 101 1)]) (r := []) (n := 2) (m := 4) (by with_unfolding_all rfl) rfl (by decide) (by with_unfolding_all rfl) (by decide) (by with_unfolding_all rfl) ⟨fun z => absurd z (by decide), fun z => by simp at z⟩
set_option maxRecDepth 20000 in
theorem b_141_105 {d nS : Nat} {x1 x2 x3 s0 : Int32} {M : am_M} {Q : Option Value → am_H → Prop} : am_Wp d 141 105 [.ref 16, .int x1, .int x2, .int x3] [.int s0] (hp nS M) Q = Q (some (.int s0)) (hp nS M) := by
  exact eq_retI2 (e := (.ireturn, 1, 0, 0, 0)) (t := .int) (by with_unfolding_all rfl) rfl (by with_unfolding_all rfl) rfl
set_option maxRecDepth 20000 in
theorem b_141_106 {d nS : Nat} {x1 x2 x3 : Int32} {M : am_M} {Q : Option Value → am_H → Prop} : am_Wp (d + 1) 141 106 [.ref 16, .int x1, .int x2, .int x3] [] (hp nS M) Q = am_Wp d 142 0 [.ref 110, .int (M 101 2), .retAddr 0, .retAddr 0] [] (hp nS M) (fun v h1 => am_Wp (d + 1) 141 123 [.ref 16, .int x1, .int x2, .int x3] (am_ans v []) h1 Q) := by
  refine (eq_run 6 (q := (120, [.ref 16, .int x1, .int x2, .int x3], [.int (M 101 2), .ref 110], hp nS M)) (by with_unfolding_all rfl)).trans ?_
  exact eq_call2 (e := (.invokestatic 228, 3, 1, 142, 32)) (as := [.ref 110, .int (M 101 2)]) (r := []) (n := 2) (m := 4) (by with_unfolding_all rfl) rfl (by decide) (by with_unfolding_all rfl) (by decide) (by with_unfolding_all rfl) ⟨fun z => absurd z (by decide), fun z => by simp at z⟩
set_option maxRecDepth 20000 in
theorem b_141_123 {d nS : Nat} {x1 x2 x3 s0 : Int32} {M : am_M} {Q : Option Value → am_H → Prop} : am_Wp d 141 123 [.ref 16, .int x1, .int x2, .int x3] [.int s0] (hp nS M) Q = Q (some (.int s0)) (hp nS M) := by
  exact eq_retI2 (e := (.ireturn, 1, 0, 0, 0)) (t := .int) (by with_unfolding_all rfl) rfl (by with_unfolding_all rfl) rfl
set_option maxRecDepth 20000 in
theorem b_141_124 {d nS : Nat} {x1 x2 x3 : Int32} {M : am_M} {Q : Option Value → am_H → Prop} : am_Wp (d + 1) 141 124 [.ref 16, .int x1, .int x2, .int x3] [] (hp nS M) Q = am_Wp d 142 0 [.ref 105, .int (M 101 0), .retAddr 0, .retAddr 0] [] (hp nS M) (fun v h1 => am_Wp (d + 1) 141 141 [.ref 16, .int x1, .int x2, .int x3] (am_ans v []) h1 Q) := by
  refine (eq_run 6 (q := (138, [.ref 16, .int x1, .int x2, .int x3], [.int (M 101 0), .ref 105], hp nS M)) (by with_unfolding_all rfl)).trans ?_
  exact eq_call2 (e := (.invokestatic 228, 3, 1, 142, 32)) (as := [.ref 105, .int (M 101 0)]) (r := []) (n := 2) (m := 4) (by with_unfolding_all rfl) rfl (by decide) (by with_unfolding_all rfl) (by decide) (by with_unfolding_all rfl) ⟨fun z => absurd z (by decide), fun z => by simp at z⟩
set_option maxRecDepth 20000 in
theorem b_141_141 {d nS : Nat} {x1 x2 x3 s0 : Int32} {M : am_M} {Q : Option Value → am_H → Prop} : am_Wp d 141 141 [.ref 16, .int x1, .int x2, .int x3] [.int s0] (hp nS M) Q = Q (some (.int s0)) (hp nS M) := by
  exact eq_retI2 (e := (.ireturn, 1, 0, 0, 0)) (t := .int) (by with_unfolding_all rfl) rfl (by with_unfolding_all rfl) rfl
set_option maxRecDepth 20000 in
theorem b_141_142 {d nS : Nat} {x1 x2 x3 : Int32} {M : am_M} {Q : Option Value → am_H → Prop} : am_Wp (d + 1) 141 142 [.ref 16, .int x1, .int x2, .int x3] [] (hp nS M) Q = am_Wp d 142 0 [.ref 111, .int (M 101 2), .retAddr 0, .retAddr 0] [] (hp nS M) (fun v h1 => am_Wp (d + 1) 141 159 [.ref 16, .int x1, .int x2, .int x3] (am_ans v []) h1 Q) := by
  refine (eq_run 6 (q := (156, [.ref 16, .int x1, .int x2, .int x3], [.int (M 101 2), .ref 111], hp nS M)) (by with_unfolding_all rfl)).trans ?_
  exact eq_call2 (e := (.invokestatic 228, 3, 1, 142, 32)) (as := [.ref 111, .int (M 101 2)]) (r := []) (n := 2) (m := 4) (by with_unfolding_all rfl) rfl (by decide) (by with_unfolding_all rfl) (by decide) (by with_unfolding_all rfl) ⟨fun z => absurd z (by decide), fun z => by simp at z⟩
set_option maxRecDepth 20000 in
theorem b_141_159 {d nS : Nat} {x1 x2 x3 s0 : Int32} {M : am_M} {Q : Option Value → am_H → Prop} : am_Wp d 141 159 [.ref 16, .int x1, .int x2, .int x3] [.int s0] (hp nS M) Q = Q (some (.int s0)) (hp nS M) := by
  exact eq_retI2 (e := (.ireturn, 1, 0, 0, 0)) (t := .int) (by with_unfolding_all rfl) rfl (by with_unfolding_all rfl) rfl
-- LarkExchange sumOf([II)I (142, (111, None))
set_option maxRecDepth 20000 in
theorem b_142_0 {d nS : Nat} {x1 : Int32} {M : am_M} {Q : Option Value → am_H → Prop} : am_Wp d 142 0 [.ref 111, .int x1, .retAddr 0, .retAddr 0] [] (hp nS M) Q = am_Wp d 142 4 [.ref 111, .int x1, .int 0, .int 0] [] (hp nS M) Q := by
  exact eq_run 4 (q := (4, [.ref 111, .int x1, .int 0, .int 0], [], hp nS M)) (by with_unfolding_all rfl)
set_option maxRecDepth 20000 in
theorem b_142_4 {d nS : Nat} {x1 x2 x3 : Int32} {M : am_M} {Q : Option Value → am_H → Prop} : am_Wp d 142 4 [.ref 111, .int x1, .int x2, .int x3] [] (hp nS M) Q = if x1 ≤ x3 then am_Wp d 142 27 [.ref 111, .int x1, .int x2, .int x3] [] (hp nS M) Q else am_Wp d 142 9 [.ref 111, .int x1, .int x2, .int x3] [] (hp nS M) Q := by
  refine (eq_run 2 (q := (6, [.ref 111, .int x1, .int x2, .int x3], [.int x1, .int x3], hp nS M)) (by with_unfolding_all rfl)).trans ?_
  exact eq_cmp_ge (by with_unfolding_all rfl)
set_option maxRecDepth 20000 in
theorem b_142_9 {d nS : Nat} {x1 x2 x3 : Int32} {M : am_M} {Q : Option Value → am_H → Prop} : am_Wp d 142 9 [.ref 111, .int x1, .int x2, .int x3] [] (hp nS M) Q = if 10 ≤ x3 then am_Wp d 142 27 [.ref 111, .int x1, .int x2, .int x3] [] (hp nS M) Q else am_Wp d 142 15 [.ref 111, .int x1, .int x2, .int x3] [] (hp nS M) Q := by
  refine (eq_run 3 (q := (12, [.ref 111, .int x1, .int x2, .int x3], [.int 10, .int x3], hp nS M)) (by with_unfolding_all rfl)).trans ?_
  exact eq_cmp_ge (by with_unfolding_all rfl)
set_option maxRecDepth 20000 in
theorem b_142_15 {d nS : Nat} {x1 x2 x3 : Int32} {M : am_M} {Q : Option Value → am_H → Prop} (h1 : vp_in x3 10) : am_Wp d 142 15 [.ref 111, .int x1, .int x2, .int x3] [] (hp nS M) Q = am_Wp d 142 4 [.ref 111, .int x1, .int (x2 + (M 111 x3.toNatClampNeg)), .int (x3 + 1)] [] (hp nS M) Q := by
  refine (eq_run 3 (q := (18, [.ref 111, .int x1, .int x2, .int x3], [.int x3, .ref 111, .int x2], hp nS M)) (by with_unfolding_all rfl)).trans ?_
  refine (eq_ald (e := (.iaload, 1, 0, 0, 0)) (by with_unfolding_all rfl) rfl (n := 10) (by with_unfolding_all rfl) h1).trans ?_
  exact eq_run 4 (q := (4, [.ref 111, .int x1, .int (x2 + (M 111 x3.toNatClampNeg)), .int (x3 + 1)], [], hp nS M)) (by with_unfolding_all rfl)
set_option maxRecDepth 20000 in
theorem b_142_27 {d nS : Nat} {x1 x2 x3 : Int32} {M : am_M} {Q : Option Value → am_H → Prop} : am_Wp d 142 27 [.ref 111, .int x1, .int x2, .int x3] [] (hp nS M) Q = Q (some (.int x2)) (hp nS M) := by
  refine (eq_run 1 (q := (28, [.ref 111, .int x1, .int x2, .int x3], [.int x2], hp nS M)) (by with_unfolding_all rfl)).trans ?_
  exact eq_retI2 (e := (.ireturn, 1, 0, 0, 0)) (t := .int) (by with_unfolding_all rfl) rfl (by with_unfolding_all rfl) rfl
-- LarkExchange sumOf([II)I (142, (105, None))
set_option maxRecDepth 20000 in
theorem b_142i1_0 {d nS : Nat} {x1 : Int32} {M : am_M} {Q : Option Value → am_H → Prop} : am_Wp d 142 0 [.ref 105, .int x1, .retAddr 0, .retAddr 0] [] (hp nS M) Q = am_Wp d 142 4 [.ref 105, .int x1, .int 0, .int 0] [] (hp nS M) Q := by
  exact eq_run 4 (q := (4, [.ref 105, .int x1, .int 0, .int 0], [], hp nS M)) (by with_unfolding_all rfl)
set_option maxRecDepth 20000 in
theorem b_142i1_4 {d nS : Nat} {x1 x2 x3 : Int32} {M : am_M} {Q : Option Value → am_H → Prop} : am_Wp d 142 4 [.ref 105, .int x1, .int x2, .int x3] [] (hp nS M) Q = if x1 ≤ x3 then am_Wp d 142 27 [.ref 105, .int x1, .int x2, .int x3] [] (hp nS M) Q else am_Wp d 142 9 [.ref 105, .int x1, .int x2, .int x3] [] (hp nS M) Q := by
  refine (eq_run 2 (q := (6, [.ref 105, .int x1, .int x2, .int x3], [.int x1, .int x3], hp nS M)) (by with_unfolding_all rfl)).trans ?_
  exact eq_cmp_ge (by with_unfolding_all rfl)
set_option maxRecDepth 20000 in
theorem b_142i1_9 {d nS : Nat} {x1 x2 x3 : Int32} {M : am_M} {Q : Option Value → am_H → Prop} : am_Wp d 142 9 [.ref 105, .int x1, .int x2, .int x3] [] (hp nS M) Q = if 6 ≤ x3 then am_Wp d 142 27 [.ref 105, .int x1, .int x2, .int x3] [] (hp nS M) Q else am_Wp d 142 15 [.ref 105, .int x1, .int x2, .int x3] [] (hp nS M) Q := by
  refine (eq_run 3 (q := (12, [.ref 105, .int x1, .int x2, .int x3], [.int 6, .int x3], hp nS M)) (by with_unfolding_all rfl)).trans ?_
  exact eq_cmp_ge (by with_unfolding_all rfl)
set_option maxRecDepth 20000 in
theorem b_142i1_15 {d nS : Nat} {x1 x2 x3 : Int32} {M : am_M} {Q : Option Value → am_H → Prop} (h1 : vp_in x3 6) : am_Wp d 142 15 [.ref 105, .int x1, .int x2, .int x3] [] (hp nS M) Q = am_Wp d 142 4 [.ref 105, .int x1, .int (x2 + (M 105 x3.toNatClampNeg)), .int (x3 + 1)] [] (hp nS M) Q := by
  refine (eq_run 3 (q := (18, [.ref 105, .int x1, .int x2, .int x3], [.int x3, .ref 105, .int x2], hp nS M)) (by with_unfolding_all rfl)).trans ?_
  refine (eq_ald (e := (.iaload, 1, 0, 0, 0)) (by with_unfolding_all rfl) rfl (n := 6) (by with_unfolding_all rfl) h1).trans ?_
  exact eq_run 4 (q := (4, [.ref 105, .int x1, .int (x2 + (M 105 x3.toNatClampNeg)), .int (x3 + 1)], [], hp nS M)) (by with_unfolding_all rfl)
set_option maxRecDepth 20000 in
theorem b_142i1_27 {d nS : Nat} {x1 x2 x3 : Int32} {M : am_M} {Q : Option Value → am_H → Prop} : am_Wp d 142 27 [.ref 105, .int x1, .int x2, .int x3] [] (hp nS M) Q = Q (some (.int x2)) (hp nS M) := by
  refine (eq_run 1 (q := (28, [.ref 105, .int x1, .int x2, .int x3], [.int x2], hp nS M)) (by with_unfolding_all rfl)).trans ?_
  exact eq_retI2 (e := (.ireturn, 1, 0, 0, 0)) (t := .int) (by with_unfolding_all rfl) rfl (by with_unfolding_all rfl) rfl
-- LarkExchange sumOf([II)I (142, (110, None))
set_option maxRecDepth 20000 in
theorem b_142i2_0 {d nS : Nat} {x1 : Int32} {M : am_M} {Q : Option Value → am_H → Prop} : am_Wp d 142 0 [.ref 110, .int x1, .retAddr 0, .retAddr 0] [] (hp nS M) Q = am_Wp d 142 4 [.ref 110, .int x1, .int 0, .int 0] [] (hp nS M) Q := by
  exact eq_run 4 (q := (4, [.ref 110, .int x1, .int 0, .int 0], [], hp nS M)) (by with_unfolding_all rfl)
set_option maxRecDepth 20000 in
theorem b_142i2_4 {d nS : Nat} {x1 x2 x3 : Int32} {M : am_M} {Q : Option Value → am_H → Prop} : am_Wp d 142 4 [.ref 110, .int x1, .int x2, .int x3] [] (hp nS M) Q = if x1 ≤ x3 then am_Wp d 142 27 [.ref 110, .int x1, .int x2, .int x3] [] (hp nS M) Q else am_Wp d 142 9 [.ref 110, .int x1, .int x2, .int x3] [] (hp nS M) Q := by
  refine (eq_run 2 (q := (6, [.ref 110, .int x1, .int x2, .int x3], [.int x1, .int x3], hp nS M)) (by with_unfolding_all rfl)).trans ?_
  exact eq_cmp_ge (by with_unfolding_all rfl)
set_option maxRecDepth 20000 in
theorem b_142i2_9 {d nS : Nat} {x1 x2 x3 : Int32} {M : am_M} {Q : Option Value → am_H → Prop} : am_Wp d 142 9 [.ref 110, .int x1, .int x2, .int x3] [] (hp nS M) Q = if 10 ≤ x3 then am_Wp d 142 27 [.ref 110, .int x1, .int x2, .int x3] [] (hp nS M) Q else am_Wp d 142 15 [.ref 110, .int x1, .int x2, .int x3] [] (hp nS M) Q := by
  refine (eq_run 3 (q := (12, [.ref 110, .int x1, .int x2, .int x3], [.int 10, .int x3], hp nS M)) (by with_unfolding_all rfl)).trans ?_
  exact eq_cmp_ge (by with_unfolding_all rfl)
set_option maxRecDepth 20000 in
theorem b_142i2_15 {d nS : Nat} {x1 x2 x3 : Int32} {M : am_M} {Q : Option Value → am_H → Prop} (h1 : vp_in x3 10) : am_Wp d 142 15 [.ref 110, .int x1, .int x2, .int x3] [] (hp nS M) Q = am_Wp d 142 4 [.ref 110, .int x1, .int (x2 + (M 110 x3.toNatClampNeg)), .int (x3 + 1)] [] (hp nS M) Q := by
  refine (eq_run 3 (q := (18, [.ref 110, .int x1, .int x2, .int x3], [.int x3, .ref 110, .int x2], hp nS M)) (by with_unfolding_all rfl)).trans ?_
  refine (eq_ald (e := (.iaload, 1, 0, 0, 0)) (by with_unfolding_all rfl) rfl (n := 10) (by with_unfolding_all rfl) h1).trans ?_
  exact eq_run 4 (q := (4, [.ref 110, .int x1, .int (x2 + (M 110 x3.toNatClampNeg)), .int (x3 + 1)], [], hp nS M)) (by with_unfolding_all rfl)
set_option maxRecDepth 20000 in
theorem b_142i2_27 {d nS : Nat} {x1 x2 x3 : Int32} {M : am_M} {Q : Option Value → am_H → Prop} : am_Wp d 142 27 [.ref 110, .int x1, .int x2, .int x3] [] (hp nS M) Q = Q (some (.int x2)) (hp nS M) := by
  refine (eq_run 1 (q := (28, [.ref 110, .int x1, .int x2, .int x3], [.int x2], hp nS M)) (by with_unfolding_all rfl)).trans ?_
  exact eq_retI2 (e := (.ireturn, 1, 0, 0, 0)) (t := .int) (by with_unfolding_all rfl) rfl (by with_unfolding_all rfl) rfl
-- LarkExchange sumOf([II)I (142, (109, None))
set_option maxRecDepth 20000 in
theorem b_142i3_0 {d nS : Nat} {x1 : Int32} {M : am_M} {Q : Option Value → am_H → Prop} : am_Wp d 142 0 [.ref 109, .int x1, .retAddr 0, .retAddr 0] [] (hp nS M) Q = am_Wp d 142 4 [.ref 109, .int x1, .int 0, .int 0] [] (hp nS M) Q := by
  exact eq_run 4 (q := (4, [.ref 109, .int x1, .int 0, .int 0], [], hp nS M)) (by with_unfolding_all rfl)
set_option maxRecDepth 20000 in
theorem b_142i3_4 {d nS : Nat} {x1 x2 x3 : Int32} {M : am_M} {Q : Option Value → am_H → Prop} : am_Wp d 142 4 [.ref 109, .int x1, .int x2, .int x3] [] (hp nS M) Q = if x1 ≤ x3 then am_Wp d 142 27 [.ref 109, .int x1, .int x2, .int x3] [] (hp nS M) Q else am_Wp d 142 9 [.ref 109, .int x1, .int x2, .int x3] [] (hp nS M) Q := by
  refine (eq_run 2 (q := (6, [.ref 109, .int x1, .int x2, .int x3], [.int x1, .int x3], hp nS M)) (by with_unfolding_all rfl)).trans ?_
  exact eq_cmp_ge (by with_unfolding_all rfl)
set_option maxRecDepth 20000 in
theorem b_142i3_9 {d nS : Nat} {x1 x2 x3 : Int32} {M : am_M} {Q : Option Value → am_H → Prop} : am_Wp d 142 9 [.ref 109, .int x1, .int x2, .int x3] [] (hp nS M) Q = if 8 ≤ x3 then am_Wp d 142 27 [.ref 109, .int x1, .int x2, .int x3] [] (hp nS M) Q else am_Wp d 142 15 [.ref 109, .int x1, .int x2, .int x3] [] (hp nS M) Q := by
  refine (eq_run 3 (q := (12, [.ref 109, .int x1, .int x2, .int x3], [.int 8, .int x3], hp nS M)) (by with_unfolding_all rfl)).trans ?_
  exact eq_cmp_ge (by with_unfolding_all rfl)
set_option maxRecDepth 20000 in
theorem b_142i3_15 {d nS : Nat} {x1 x2 x3 : Int32} {M : am_M} {Q : Option Value → am_H → Prop} (h1 : vp_in x3 8) : am_Wp d 142 15 [.ref 109, .int x1, .int x2, .int x3] [] (hp nS M) Q = am_Wp d 142 4 [.ref 109, .int x1, .int (x2 + (M 109 x3.toNatClampNeg)), .int (x3 + 1)] [] (hp nS M) Q := by
  refine (eq_run 3 (q := (18, [.ref 109, .int x1, .int x2, .int x3], [.int x3, .ref 109, .int x2], hp nS M)) (by with_unfolding_all rfl)).trans ?_
  refine (eq_ald (e := (.iaload, 1, 0, 0, 0)) (by with_unfolding_all rfl) rfl (n := 8) (by with_unfolding_all rfl) h1).trans ?_
  exact eq_run 4 (q := (4, [.ref 109, .int x1, .int (x2 + (M 109 x3.toNatClampNeg)), .int (x3 + 1)], [], hp nS M)) (by with_unfolding_all rfl)
set_option maxRecDepth 20000 in
theorem b_142i3_27 {d nS : Nat} {x1 x2 x3 : Int32} {M : am_M} {Q : Option Value → am_H → Prop} : am_Wp d 142 27 [.ref 109, .int x1, .int x2, .int x3] [] (hp nS M) Q = Q (some (.int x2)) (hp nS M) := by
  refine (eq_run 1 (q := (28, [.ref 109, .int x1, .int x2, .int x3], [.int x2], hp nS M)) (by with_unfolding_all rfl)).trans ?_
  exact eq_retI2 (e := (.ireturn, 1, 0, 0, 0)) (t := .int) (by with_unfolding_all rfl) rfl (by with_unfolding_all rfl) rfl
-- LarkExchange ruin(I)I (143, (16, None))
set_option maxRecDepth 20000 in
theorem b_143_0 {d nS : Nat} {x1 : Int32} {M : am_M} {Q : Option Value → am_H → Prop} : am_Wp (d + 1) 143 0 [.ref 16, .int x1, .retAddr 0] [] (hp nS M) Q = am_Wp d 107 0 [.ref 18, .int x1] [] (hp nS M) (fun v h1 => am_Wp (d + 1) 143 11 [.ref 16, .int x1, .retAddr 0] (am_ans v []) h1 Q) := by
  refine (eq_run 4 (q := (8, [.ref 16, .int x1, .retAddr 0], [.int x1, .ref 18], hp nS M)) (by with_unfolding_all rfl)).trans ?_
  exact eq_call2 (e := (.invokevirtual 211, 3, 0, 107, 29)) (as := [.ref 18, .int x1]) (r := []) (n := 2) (m := 2) (by with_unfolding_all rfl) rfl (by decide) (by with_unfolding_all rfl) (by decide) (by with_unfolding_all rfl) ⟨fun _ => am_rec_ok (c := 12) (by with_unfolding_all rfl) (by decide +kernel), fun z => by simp at z⟩
set_option maxRecDepth 20000 in
theorem b_143_11 {d nS : Nat} {x1 s0 : Int32} {M : am_M} {Q : Option Value → am_H → Prop} : am_Wp d 143 11 [.ref 16, .int x1, .retAddr 0] [.int s0] (hp nS M) Q = if ¬ s0 = 0 then am_Wp d 143 16 [.ref 16, .int x1, .retAddr 0] [] (hp nS M) Q else am_Wp d 143 14 [.ref 16, .int x1, .retAddr 0] [] (hp nS M) Q := by
  exact eq_if_ne (by with_unfolding_all rfl)
set_option maxRecDepth 20000 in
theorem b_143_14 {d nS : Nat} {x1 : Int32} {M : am_M} {Q : Option Value → am_H → Prop} : am_Wp d 143 14 [.ref 16, .int x1, .retAddr 0] [] (hp nS M) Q = Q (some (.int (-1))) (hp nS M) := by
  refine (eq_run 1 (q := (15, [.ref 16, .int x1, .retAddr 0], [.int (-1)], hp nS M)) (by with_unfolding_all rfl)).trans ?_
  exact eq_retI2 (e := (.ireturn, 1, 0, 0, 0)) (t := .int) (by with_unfolding_all rfl) rfl (by with_unfolding_all rfl) rfl
set_option maxRecDepth 20000 in
theorem b_143_16 {d nS : Nat} {x1 : Int32} {M : am_M} {Q : Option Value → am_H → Prop} : am_Wp (d + 1) 143 16 [.ref 16, .int x1, .retAddr 0] [] (hp nS M) Q = am_Wp d 111 0 [.ref 101, .ref 18] [] (hp nS M) (fun v h1 => am_Wp (d + 1) 143 30 [.ref 16, .int x1, .retAddr 0] (am_ans v []) h1 Q) := by
  refine (eq_run 5 (q := (27, [.ref 16, .int x1, .retAddr 0], [.ref 18, .ref 101], hp nS M)) (by with_unfolding_all rfl)).trans ?_
  exact eq_call2 (e := (.invokevirtual 226, 3, 0, 111, 31)) (as := [.ref 101, .ref 18]) (r := []) (n := 2) (m := 2) (by with_unfolding_all rfl) rfl (by decide) (by with_unfolding_all rfl) (by decide) (by with_unfolding_all rfl) ⟨fun _ => am_rec_ok (c := 12) (by with_unfolding_all rfl) (by decide +kernel), fun z => by simp at z⟩
set_option maxRecDepth 20000 in
theorem b_143_30 {d nS : Nat} {x1 : Int32} {M : am_M} {Q : Option Value → am_H → Prop} : am_Wp d 143 30 [.ref 16, .int x1, .retAddr 0] [] (hp nS M) Q = am_Wp d 143 32 [.ref 16, .int x1, .int 0] [] (hp nS M) Q := by
  exact eq_run 2 (q := (32, [.ref 16, .int x1, .int 0], [], hp nS M)) (by with_unfolding_all rfl)
set_option maxRecDepth 20000 in
theorem b_143_32 {d nS : Nat} {x1 x2 : Int32} {M : am_M} {Q : Option Value → am_H → Prop} : am_Wp d 143 32 [.ref 16, .int x1, .int x2] [] (hp nS M) Q = if 60 ≤ x2 then am_Wp d 143 72 [.ref 16, .int x1, .int x2] [] (hp nS M) Q else am_Wp d 143 38 [.ref 16, .int x1, .int x2] [] (hp nS M) Q := by
  refine (eq_run 2 (q := (35, [.ref 16, .int x1, .int x2], [.int 60, .int x2], hp nS M)) (by with_unfolding_all rfl)).trans ?_
  exact eq_cmp_ge (by with_unfolding_all rfl)
set_option maxRecDepth 20000 in
theorem b_143_38 {d nS : Nat} {x1 x2 : Int32} {M : am_M} {Q : Option Value → am_H → Prop} (h1 : vp_in x1 10) : am_Wp d 143 38 [.ref 16, .int x1, .int x2] [] (hp nS M) Q = if ¬ (M 111 x1.toNatClampNeg) = 1 then am_Wp d 143 53 [.ref 16, .int x1, .int x2] [] (hp nS M) Q else am_Wp d 143 51 [.ref 16, .int x1, .int x2] [] (hp nS M) Q := by
  refine (eq_run 4 (q := (46, [.ref 16, .int x1, .int x2], [.int x1, .ref 111], hp nS M)) (by with_unfolding_all rfl)).trans ?_
  refine (eq_ald (e := (.iaload, 1, 0, 0, 0)) (by with_unfolding_all rfl) rfl (n := 10) (by with_unfolding_all rfl) h1).trans ?_
  refine (eq_run 1 (q := (48, [.ref 16, .int x1, .int x2], [.int 1, .int (M 111 x1.toNatClampNeg)], hp nS M)) (by with_unfolding_all rfl)).trans ?_
  exact eq_cmp_ne (by with_unfolding_all rfl)
set_option maxRecDepth 20000 in
theorem b_143_51 {d nS : Nat} {x1 x2 : Int32} {M : am_M} {Q : Option Value → am_H → Prop} : am_Wp d 143 51 [.ref 16, .int x1, .int x2] [] (hp nS M) Q = Q (some (.int x2)) (hp nS M) := by
  refine (eq_run 1 (q := (52, [.ref 16, .int x1, .int x2], [.int x2], hp nS M)) (by with_unfolding_all rfl)).trans ?_
  exact eq_retI2 (e := (.ireturn, 1, 0, 0, 0)) (t := .int) (by with_unfolding_all rfl) rfl (by with_unfolding_all rfl) rfl
set_option maxRecDepth 20000 in
theorem b_143_53 {d nS : Nat} {x1 x2 : Int32} {M : am_M} {Q : Option Value → am_H → Prop} : am_Wp (d + 1) 143 53 [.ref 16, .int x1, .int x2] [] (hp nS M) Q = am_Wp d 95 0 [.ref 17, .ref 101, .int 0, .retAddr 0, .retAddr 0] [] (hp nS M) (fun v h1 => am_Wp (d + 1) 143 65 [.ref 16, .int x1, .int x2] (am_ans v []) h1 Q) := by
  refine (eq_run 5 (q := (62, [.ref 16, .int x1, .int x2], [.int 0, .ref 101, .ref 17], hp nS M)) (by with_unfolding_all rfl)).trans ?_
  exact eq_call2 (e := (.invokevirtual 134, 3, 0, 95, 19)) (as := [.ref 17, .ref 101, .int 0]) (r := []) (n := 3) (m := 5) (by with_unfolding_all rfl) rfl (by decide) (by with_unfolding_all rfl) (by decide) (by with_unfolding_all rfl) ⟨fun _ => am_rec_ok (c := 11) (by with_unfolding_all rfl) (by decide +kernel), fun z => by simp at z⟩
set_option maxRecDepth 20000 in
theorem b_143_65 {d nS : Nat} {x1 x2 s0 : Int32} {M : am_M} {Q : Option Value → am_H → Prop} : am_Wp d 143 65 [.ref 16, .int x1, .int x2] [.int s0] (hp nS M) Q = am_Wp d 143 32 [.ref 16, .int x1, .int (x2 + 1)] [] (hp nS M) Q := by
  exact eq_run 3 (q := (32, [.ref 16, .int x1, .int (x2 + 1)], [], hp nS M)) (by with_unfolding_all rfl)
set_option maxRecDepth 20000 in
theorem b_143_72 {d nS : Nat} {x1 x2 : Int32} {M : am_M} {Q : Option Value → am_H → Prop} (h1 : vp_in x1 10) : am_Wp d 143 72 [.ref 16, .int x1, .int x2] [] (hp nS M) Q = if ¬ (M 111 x1.toNatClampNeg) = 1 then am_Wp d 143 90 [.ref 16, .int x1, .int x2] [] (hp nS M) Q else am_Wp d 143 85 [.ref 16, .int x1, .int x2] [] (hp nS M) Q := by
  refine (eq_run 4 (q := (80, [.ref 16, .int x1, .int x2], [.int x1, .ref 111], hp nS M)) (by with_unfolding_all rfl)).trans ?_
  refine (eq_ald (e := (.iaload, 1, 0, 0, 0)) (by with_unfolding_all rfl) rfl (n := 10) (by with_unfolding_all rfl) h1).trans ?_
  refine (eq_run 1 (q := (82, [.ref 16, .int x1, .int x2], [.int 1, .int (M 111 x1.toNatClampNeg)], hp nS M)) (by with_unfolding_all rfl)).trans ?_
  exact eq_cmp_ne (by with_unfolding_all rfl)
set_option maxRecDepth 20000 in
theorem b_143_85 {d nS : Nat} {x1 x2 : Int32} {M : am_M} {Q : Option Value → am_H → Prop} : am_Wp d 143 85 [.ref 16, .int x1, .int x2] [] (hp nS M) Q = am_Wp d 143 91 [.ref 16, .int x1, .int x2] [.int 60] (hp nS M) Q := by
  exact eq_run 2 (q := (91, [.ref 16, .int x1, .int x2], [.int 60], hp nS M)) (by with_unfolding_all rfl)
set_option maxRecDepth 20000 in
theorem b_143_90 {d nS : Nat} {x1 x2 : Int32} {M : am_M} {Q : Option Value → am_H → Prop} : am_Wp d 143 90 [.ref 16, .int x1, .int x2] [] (hp nS M) Q = am_Wp d 143 91 [.ref 16, .int x1, .int x2] [.int (-1)] (hp nS M) Q := by
  exact eq_run 1 (q := (91, [.ref 16, .int x1, .int x2], [.int (-1)], hp nS M)) (by with_unfolding_all rfl)
set_option maxRecDepth 20000 in
theorem b_143_91 {d nS : Nat} {x1 x2 s0 : Int32} {M : am_M} {Q : Option Value → am_H → Prop} : am_Wp d 143 91 [.ref 16, .int x1, .int x2] [.int s0] (hp nS M) Q = Q (some (.int s0)) (hp nS M) := by
  exact eq_retI2 (e := (.ireturn, 1, 0, 0, 0)) (t := .int) (by with_unfolding_all rfl) rfl (by with_unfolding_all rfl) rfl
-- LarkExchange price(I)I (144, (16, None))
set_option maxRecDepth 20000 in
theorem b_144_0 {d nS : Nat} {x1 : Int32} {M : am_M} {Q : Option Value → am_H → Prop} : am_Wp (d + 1) 144 0 [.ref 16, .int x1] [] (hp nS M) Q = am_Wp d 65 0 [.ref 45, .int x1] [] (hp nS M) (fun v h1 => am_Wp (d + 1) 144 11 [.ref 16, .int x1] (am_ans v []) h1 Q) := by
  refine (eq_run 4 (q := (8, [.ref 16, .int x1], [.int x1, .ref 45], hp nS M)) (by with_unfolding_all rfl)).trans ?_
  exact eq_call2 (e := (.invokevirtual 236, 3, 0, 65, 33)) (as := [.ref 45, .int x1]) (r := []) (n := 2) (m := 2) (by with_unfolding_all rfl) rfl (by decide) (by with_unfolding_all rfl) (by decide) (by with_unfolding_all rfl) ⟨fun _ => am_rec_ok (c := 9) (by with_unfolding_all rfl) (by decide +kernel), fun z => by simp at z⟩
set_option maxRecDepth 20000 in
theorem b_144_11 {d nS : Nat} {x1 s0 : Int32} {M : am_M} {Q : Option Value → am_H → Prop} : am_Wp d 144 11 [.ref 16, .int x1] [.int s0] (hp nS M) Q = Q (some (.int s0)) (hp nS M) := by
  exact eq_retI2 (e := (.ireturn, 1, 0, 0, 0)) (t := .int) (by with_unfolding_all rfl) rfl (by with_unfolding_all rfl) rfl
-- LarkExchange trading(II)I (145, (16, None, None))
set_option maxRecDepth 20000 in
theorem b_145_0 {d nS : Nat} {x1 x2 : Int32} {M : am_M} {Q : Option Value → am_H → Prop} : am_Wp (d + 1) 145 0 [.ref 16, .int x1, .int x2] [] (hp nS M) Q = am_Wp d 125 0 [.int x1, .int 1, .int 5] [] (hp nS M) (fun v h1 => am_Wp (d + 1) 145 6 [.ref 16, .int x1, .int x2] (am_ans v []) h1 Q) := by
  refine (eq_run 3 (q := (3, [.ref 16, .int x1, .int x2], [.int 5, .int 1, .int x1], hp nS M)) (by with_unfolding_all rfl)).trans ?_
  exact eq_call2 (e := (.invokestatic 57, 3, 1, 125, 7)) (as := [.int x1, .int 1, .int 5]) (r := []) (n := 3) (m := 3) (by with_unfolding_all rfl) rfl (by decide) (by with_unfolding_all rfl) (by decide) (by with_unfolding_all rfl) ⟨fun z => absurd z (by decide), fun z => by simp at z⟩
set_option maxRecDepth 20000 in
theorem b_145_6 {d nS : Nat} {x1 x2 s0 : Int32} {M : am_M} {Q : Option Value → am_H → Prop} : am_Wp d 145 6 [.ref 16, .int x1, .int x2] [.int s0] (hp nS M) Q = if ¬ s0 = 0 then am_Wp d 145 18 [.ref 16, .int x1, .int x2] [] (hp nS M) Q else am_Wp d 145 9 [.ref 16, .int x1, .int x2] [] (hp nS M) Q := by
  exact eq_if_ne (by with_unfolding_all rfl)
set_option maxRecDepth 20000 in
theorem b_145_9 {d nS : Nat} {x1 x2 : Int32} {M : am_M} {Q : Option Value → am_H → Prop} : am_Wp (d + 1) 145 9 [.ref 16, .int x1, .int x2] [] (hp nS M) Q = am_Wp d 125 0 [.int x2, .int 0, .int 1] [] (hp nS M) (fun v h1 => am_Wp (d + 1) 145 15 [.ref 16, .int x1, .int x2] (am_ans v []) h1 Q) := by
  refine (eq_run 3 (q := (12, [.ref 16, .int x1, .int x2], [.int 1, .int 0, .int x2], hp nS M)) (by with_unfolding_all rfl)).trans ?_
  exact eq_call2 (e := (.invokestatic 57, 3, 1, 125, 7)) (as := [.int x2, .int 0, .int 1]) (r := []) (n := 3) (m := 3) (by with_unfolding_all rfl) rfl (by decide) (by with_unfolding_all rfl) (by decide) (by with_unfolding_all rfl) ⟨fun z => absurd z (by decide), fun z => by simp at z⟩
set_option maxRecDepth 20000 in
theorem b_145_15 {d nS : Nat} {x1 x2 s0 : Int32} {M : am_M} {Q : Option Value → am_H → Prop} : am_Wp d 145 15 [.ref 16, .int x1, .int x2] [.int s0] (hp nS M) Q = if s0 = 0 then am_Wp d 145 20 [.ref 16, .int x1, .int x2] [] (hp nS M) Q else am_Wp d 145 18 [.ref 16, .int x1, .int x2] [] (hp nS M) Q := by
  exact eq_if_eq (by with_unfolding_all rfl)
set_option maxRecDepth 20000 in
theorem b_145_18 {d nS : Nat} {x1 x2 : Int32} {M : am_M} {Q : Option Value → am_H → Prop} : am_Wp d 145 18 [.ref 16, .int x1, .int x2] [] (hp nS M) Q = Q (some (.int (-1))) (hp nS M) := by
  refine (eq_run 1 (q := (19, [.ref 16, .int x1, .int x2], [.int (-1)], hp nS M)) (by with_unfolding_all rfl)).trans ?_
  exact eq_retI2 (e := (.ireturn, 1, 0, 0, 0)) (t := .int) (by with_unfolding_all rfl) rfl (by with_unfolding_all rfl) rfl
set_option maxRecDepth 20000 in
theorem b_145_20 {d nS : Nat} {x1 x2 : Int32} {M : am_M} {Q : Option Value → am_H → Prop} : am_Wp d 145 20 [.ref 16, .int x1, .int x2] [] (hp nS M) Q = if ¬ x2 = 0 then am_Wp d 145 38 [.ref 16, .int x1, .int x2] [] (hp nS M) Q else am_Wp d 145 24 [.ref 16, .int x1, .int x2] [] (hp nS M) Q := by
  refine (eq_run 1 (q := (21, [.ref 16, .int x1, .int x2], [.int x2], hp nS M)) (by with_unfolding_all rfl)).trans ?_
  exact eq_if_ne (by with_unfolding_all rfl)
set_option maxRecDepth 20000 in
theorem b_145_24 {d nS : Nat} {x1 x2 : Int32} {M : am_M} {Q : Option Value → am_H → Prop} : am_Wp (d + 1) 145 24 [.ref 16, .int x1, .int x2] [] (hp nS M) Q = am_Wp d 66 0 [.ref 45, .int x1] [] (hp nS M) (fun v h1 => am_Wp (d + 1) 145 35 [.ref 16, .int x1, .int x2] (am_ans v []) h1 Q) := by
  refine (eq_run 4 (q := (32, [.ref 16, .int x1, .int x2], [.int x1, .ref 45], hp nS M)) (by with_unfolding_all rfl)).trans ?_
  exact eq_call2 (e := (.invokevirtual 241, 3, 0, 66, 34)) (as := [.ref 45, .int x1]) (r := []) (n := 2) (m := 2) (by with_unfolding_all rfl) rfl (by decide) (by with_unfolding_all rfl) (by decide) (by with_unfolding_all rfl) ⟨fun _ => am_rec_ok (c := 9) (by with_unfolding_all rfl) (by decide +kernel), fun z => by simp at z⟩
set_option maxRecDepth 20000 in
theorem b_145_35 {d nS : Nat} {x1 x2 s0 : Int32} {M : am_M} {Q : Option Value → am_H → Prop} : am_Wp d 145 35 [.ref 16, .int x1, .int x2] [.int s0] (hp nS M) Q = am_Wp d 145 49 [.ref 16, .int x1, .int x2] [.int s0] (hp nS M) Q := by
  exact eq_run 1 (q := (49, [.ref 16, .int x1, .int x2], [.int s0], hp nS M)) (by with_unfolding_all rfl)
set_option maxRecDepth 20000 in
theorem b_145_38 {d nS : Nat} {x1 x2 : Int32} {M : am_M} {Q : Option Value → am_H → Prop} : am_Wp (d + 1) 145 38 [.ref 16, .int x1, .int x2] [] (hp nS M) Q = am_Wp d 68 0 [.ref 45, .int x1, .retAddr 0, .retAddr 0] [] (hp nS M) (fun v h1 => am_Wp (d + 1) 145 49 [.ref 16, .int x1, .int x2] (am_ans v []) h1 Q) := by
  refine (eq_run 4 (q := (46, [.ref 16, .int x1, .int x2], [.int x1, .ref 45], hp nS M)) (by with_unfolding_all rfl)).trans ?_
  exact eq_call2 (e := (.invokevirtual 244, 3, 0, 68, 35)) (as := [.ref 45, .int x1]) (r := []) (n := 2) (m := 4) (by with_unfolding_all rfl) rfl (by decide) (by with_unfolding_all rfl) (by decide) (by with_unfolding_all rfl) ⟨fun _ => am_rec_ok (c := 9) (by with_unfolding_all rfl) (by decide +kernel), fun z => by simp at z⟩
set_option maxRecDepth 20000 in
theorem b_145_49 {d nS : Nat} {x1 x2 s0 : Int32} {M : am_M} {Q : Option Value → am_H → Prop} : am_Wp d 145 49 [.ref 16, .int x1, .int x2] [.int s0] (hp nS M) Q = Q (some (.int s0)) (hp nS M) := by
  exact eq_retI2 (e := (.ireturn, 1, 0, 0, 0)) (t := .int) (by with_unfolding_all rfl) rfl (by with_unfolding_all rfl) rfl
-- LarkExchange change(III)Z (146, (16, None, None, None))
set_option maxRecDepth 20000 in
theorem b_146_0 {d nS : Nat} {x1 x2 x3 : Int32} {M : am_M} {Q : Option Value → am_H → Prop} : am_Wp (d + 1) 146 0 [.ref 16, .int x1, .int x2, .int x3] [] (hp nS M) Q = am_Wp d 2 0 [.ref 54, .int x1, .int x2, .int x3] [] (hp nS M) (fun v h1 => am_Wp (d + 1) 146 13 [.ref 16, .int x1, .int x2, .int x3] (am_ans v []) h1 Q) := by
  refine (eq_run 6 (q := (10, [.ref 16, .int x1, .int x2, .int x3], [.int x3, .int x2, .int x1, .ref 54], hp nS M)) (by with_unfolding_all rfl)).trans ?_
  exact eq_call2 (e := (.invokevirtual 251, 3, 0, 2, 36)) (as := [.ref 54, .int x1, .int x2, .int x3]) (r := []) (n := 4) (m := 4) (by with_unfolding_all rfl) rfl (by decide) (by with_unfolding_all rfl) (by decide) (by with_unfolding_all rfl) ⟨fun _ => am_rec_ok (c := 3) (by with_unfolding_all rfl) (by decide +kernel), fun z => by simp at z⟩
set_option maxRecDepth 20000 in
theorem b_146_13 {d nS : Nat} {x1 x2 x3 s0 : Int32} {M : am_M} {Q : Option Value → am_H → Prop} (h1 : am_rok .boolean s0 = true) : am_Wp d 146 13 [.ref 16, .int x1, .int x2, .int x3] [.int s0] (hp nS M) Q = Q (some (.int s0)) (hp nS M) := by
  exact eq_retI2 (e := (.ireturn, 1, 0, 0, 0)) (t := .boolean) (by with_unfolding_all rfl) rfl (by with_unfolding_all rfl) h1
-- LarkExchange round(II)I (147, (16, None, None))
set_option maxRecDepth 20000 in
theorem b_147_0 {d nS : Nat} {x1 x2 : Int32} {M : am_M} {Q : Option Value → am_H → Prop} : am_Wp (d + 1) 147 0 [.ref 16, .int x1, .int x2] [] (hp nS M) Q = am_Wp d 125 0 [.int x1, .int 0, .int 3] [] (hp nS M) (fun v h1 => am_Wp (d + 1) 147 6 [.ref 16, .int x1, .int x2] (am_ans v []) h1 Q) := by
  refine (eq_run 3 (q := (3, [.ref 16, .int x1, .int x2], [.int 3, .int 0, .int x1], hp nS M)) (by with_unfolding_all rfl)).trans ?_
  exact eq_call2 (e := (.invokestatic 57, 3, 1, 125, 7)) (as := [.int x1, .int 0, .int 3]) (r := []) (n := 3) (m := 3) (by with_unfolding_all rfl) rfl (by decide) (by with_unfolding_all rfl) (by decide) (by with_unfolding_all rfl) ⟨fun z => absurd z (by decide), fun z => by simp at z⟩
set_option maxRecDepth 20000 in
theorem b_147_6 {d nS : Nat} {x1 x2 s0 : Int32} {M : am_M} {Q : Option Value → am_H → Prop} : am_Wp d 147 6 [.ref 16, .int x1, .int x2] [.int s0] (hp nS M) Q = if ¬ s0 = 0 then am_Wp d 147 18 [.ref 16, .int x1, .int x2] [] (hp nS M) Q else am_Wp d 147 9 [.ref 16, .int x1, .int x2] [] (hp nS M) Q := by
  exact eq_if_ne (by with_unfolding_all rfl)
set_option maxRecDepth 20000 in
theorem b_147_9 {d nS : Nat} {x1 x2 : Int32} {M : am_M} {Q : Option Value → am_H → Prop} : am_Wp (d + 1) 147 9 [.ref 16, .int x1, .int x2] [] (hp nS M) Q = am_Wp d 125 0 [.int x2, .int 0, .int 1] [] (hp nS M) (fun v h1 => am_Wp (d + 1) 147 15 [.ref 16, .int x1, .int x2] (am_ans v []) h1 Q) := by
  refine (eq_run 3 (q := (12, [.ref 16, .int x1, .int x2], [.int 1, .int 0, .int x2], hp nS M)) (by with_unfolding_all rfl)).trans ?_
  exact eq_call2 (e := (.invokestatic 57, 3, 1, 125, 7)) (as := [.int x2, .int 0, .int 1]) (r := []) (n := 3) (m := 3) (by with_unfolding_all rfl) rfl (by decide) (by with_unfolding_all rfl) (by decide) (by with_unfolding_all rfl) ⟨fun z => absurd z (by decide), fun z => by simp at z⟩
set_option maxRecDepth 20000 in
theorem b_147_15 {d nS : Nat} {x1 x2 s0 : Int32} {M : am_M} {Q : Option Value → am_H → Prop} : am_Wp d 147 15 [.ref 16, .int x1, .int x2] [.int s0] (hp nS M) Q = if s0 = 0 then am_Wp d 147 20 [.ref 16, .int x1, .int x2] [] (hp nS M) Q else am_Wp d 147 18 [.ref 16, .int x1, .int x2] [] (hp nS M) Q := by
  exact eq_if_eq (by with_unfolding_all rfl)
set_option maxRecDepth 20000 in
theorem b_147_18 {d nS : Nat} {x1 x2 : Int32} {M : am_M} {Q : Option Value → am_H → Prop} : am_Wp d 147 18 [.ref 16, .int x1, .int x2] [] (hp nS M) Q = Q (some (.int (-1))) (hp nS M) := by
  refine (eq_run 1 (q := (19, [.ref 16, .int x1, .int x2], [.int (-1)], hp nS M)) (by with_unfolding_all rfl)).trans ?_
  exact eq_retI2 (e := (.ireturn, 1, 0, 0, 0)) (t := .int) (by with_unfolding_all rfl) rfl (by with_unfolding_all rfl) rfl
set_option maxRecDepth 20000 in
theorem b_147_20 {d nS : Nat} {x1 x2 : Int32} {M : am_M} {Q : Option Value → am_H → Prop} : am_Wp (d + 1) 147 20 [.ref 16, .int x1, .int x2] [] (hp nS M) Q = am_Wp d 3 0 [.ref 54, .int x1, .int x2, .retAddr 0] [] (hp nS M) (fun v h1 => am_Wp (d + 1) 147 32 [.ref 16, .int x1, .int x2] (am_ans v []) h1 Q) := by
  refine (eq_run 5 (q := (29, [.ref 16, .int x1, .int x2], [.int x2, .int x1, .ref 54], hp nS M)) (by with_unfolding_all rfl)).trans ?_
  exact eq_call2 (e := (.invokevirtual 256, 3, 0, 3, 37)) (as := [.ref 54, .int x1, .int x2]) (r := []) (n := 3) (m := 4) (by with_unfolding_all rfl) rfl (by decide) (by with_unfolding_all rfl) (by decide) (by with_unfolding_all rfl) ⟨fun _ => am_rec_ok (c := 3) (by with_unfolding_all rfl) (by decide +kernel), fun z => by simp at z⟩
set_option maxRecDepth 20000 in
theorem b_147_32 {d nS : Nat} {x1 x2 s0 : Int32} {M : am_M} {Q : Option Value → am_H → Prop} : am_Wp d 147 32 [.ref 16, .int x1, .int x2] [.int s0] (hp nS M) Q = Q (some (.int s0)) (hp nS M) := by
  exact eq_retI2 (e := (.ireturn, 1, 0, 0, 0)) (t := .int) (by with_unfolding_all rfl) rfl (by with_unfolding_all rfl) rfl
-- LarkExchange common(II)I (148, (None, None))
set_option maxRecDepth 20000 in
theorem b_148_0 {d nS : Nat} {x0 x1 : Int32} {M : am_M} {Q : Option Value → am_H → Prop} : am_Wp (d + 1) 148 0 [.int x0, .int x1, .retAddr 0, .retAddr 0, .retAddr 0, .retAddr 0] [] (hp nS M) Q = am_Wp d 298 0 [.int x0] [] (hp nS M) (fun v h1 => am_Wp (d + 1) 148 4 [.int x0, .int x1, .retAddr 0, .retAddr 0, .retAddr 0, .retAddr 0] (am_ans v []) h1 Q) := by
  refine (eq_run 1 (q := (1, [.int x0, .int x1, .retAddr 0, .retAddr 0, .retAddr 0, .retAddr 0], [.int x0], hp nS M)) (by with_unfolding_all rfl)).trans ?_
  exact eq_call2 (e := (.invokestatic 354, 3, 1, 298, 64)) (as := [.int x0]) (r := []) (n := 1) (m := 1) (by with_unfolding_all rfl) rfl (by decide) (by with_unfolding_all rfl) (by decide) (by with_unfolding_all rfl) ⟨fun z => absurd z (by decide), fun z => by simp at z⟩
set_option maxRecDepth 20000 in
theorem b_148_4 {d nS : Nat} {x0 x1 s0 : Int32} {M : am_M} {Q : Option Value → am_H → Prop} : am_Wp (d + 1) 148 4 [.int x0, .int x1, .retAddr 0, .retAddr 0, .retAddr 0, .retAddr 0] [.int s0] (hp nS M) Q = am_Wp d 298 0 [.int x1] [] (hp nS M) (fun v h1 => am_Wp (d + 1) 148 9 [.int x0, .int x1, .int s0, .retAddr 0, .retAddr 0, .retAddr 0] (am_ans v []) h1 Q) := by
  refine (eq_run 2 (q := (6, [.int x0, .int x1, .int s0, .retAddr 0, .retAddr 0, .retAddr 0], [.int x1], hp nS M)) (by with_unfolding_all rfl)).trans ?_
  exact eq_call2 (e := (.invokestatic 354, 3, 1, 298, 64)) (as := [.int x1]) (r := []) (n := 1) (m := 1) (by with_unfolding_all rfl) rfl (by decide) (by with_unfolding_all rfl) (by decide) (by with_unfolding_all rfl) ⟨fun z => absurd z (by decide), fun z => by simp at z⟩
set_option maxRecDepth 20000 in
theorem b_148_9 {d nS : Nat} {x0 x1 x2 s0 : Int32} {M : am_M} {Q : Option Value → am_H → Prop} : am_Wp d 148 9 [.int x0, .int x1, .int x2, .retAddr 0, .retAddr 0, .retAddr 0] [.int s0] (hp nS M) Q = am_Wp d 148 13 [.int x0, .int x1, .int x2, .int s0, .int 0, .retAddr 0] [] (hp nS M) Q := by
  exact eq_run 3 (q := (13, [.int x0, .int x1, .int x2, .int s0, .int 0, .retAddr 0], [], hp nS M)) (by with_unfolding_all rfl)
set_option maxRecDepth 20000 in
theorem b_148_13 {d nS : Nat} {x0 x1 x2 x3 x4 : Int32} {zx5 : Value} {M : am_M} {Q : Option Value → am_H → Prop} : am_Wp d 148 13 [.int x0, .int x1, .int x2, .int x3, .int x4, zx5] [] (hp nS M) Q = if 64 ≤ x4 then am_Wp d 148 40 [.int x0, .int x1, .int x2, .int x3, .int x4, zx5] [] (hp nS M) Q else am_Wp d 148 20 [.int x0, .int x1, .int x2, .int x3, .int x4, zx5] [] (hp nS M) Q := by
  refine (eq_run 2 (q := (17, [.int x0, .int x1, .int x2, .int x3, .int x4, zx5], [.int 64, .int x4], hp nS M)) (by with_unfolding_all rfl)).trans ?_
  exact eq_cmp_ge (by with_unfolding_all rfl)
set_option maxRecDepth 20000 in
theorem b_148_20 {d nS : Nat} {x0 x1 x2 x3 x4 : Int32} {zx5 : Value} {M : am_M} {Q : Option Value → am_H → Prop} : am_Wp d 148 20 [.int x0, .int x1, .int x2, .int x3, .int x4, zx5] [] (hp nS M) Q = if x3 = 0 then am_Wp d 148 40 [.int x0, .int x1, .int x2, .int x3, .int x4, zx5] [] (hp nS M) Q else am_Wp d 148 24 [.int x0, .int x1, .int x2, .int x3, .int x4, zx5] [] (hp nS M) Q := by
  refine (eq_run 1 (q := (21, [.int x0, .int x1, .int x2, .int x3, .int x4, zx5], [.int x3], hp nS M)) (by with_unfolding_all rfl)).trans ?_
  exact eq_if_eq (by with_unfolding_all rfl)
set_option maxRecDepth 20000 in
theorem b_148_24 {d nS : Nat} {x0 x1 x2 x3 x4 : Int32} {zx5 : Value} {M : am_M} {Q : Option Value → am_H → Prop} (h1 : ¬ x3 = 0) : am_Wp d 148 24 [.int x0, .int x1, .int x2, .int x3, .int x4, zx5] [] (hp nS M) Q = am_Wp d 148 13 [.int x0, .int x1, .int x3, .int (x2 - x2 / x3 * x3), .int (x4 + 1), .int (x2 - x2 / x3 * x3)] [] (hp nS M) Q := by
  refine (eq_run 2 (q := (26, [.int x0, .int x1, .int x2, .int x3, .int x4, zx5], [.int x3, .int x2], hp nS M)) (by with_unfolding_all rfl)).trans ?_
  refine (eq_rem (e := (.irem, 1, 0, 0, 0)) (by with_unfolding_all rfl) rfl h1).trans ?_
  exact eq_run 7 (q := (13, [.int x0, .int x1, .int x3, .int (x2 - x2 / x3 * x3), .int (x4 + 1), .int (x2 - x2 / x3 * x3)], [], hp nS M)) (by with_unfolding_all rfl)
set_option maxRecDepth 20000 in
theorem b_148_40 {d nS : Nat} {x0 x1 x2 x3 x4 : Int32} {zx5 : Value} {M : am_M} {Q : Option Value → am_H → Prop} : am_Wp d 148 40 [.int x0, .int x1, .int x2, .int x3, .int x4, zx5] [] (hp nS M) Q = if 1 ≤ x2 then am_Wp d 148 49 [.int x0, .int x1, .int x2, .int x3, .int x4, zx5] [] (hp nS M) Q else am_Wp d 148 45 [.int x0, .int x1, .int x2, .int x3, .int x4, zx5] [] (hp nS M) Q := by
  refine (eq_run 2 (q := (42, [.int x0, .int x1, .int x2, .int x3, .int x4, zx5], [.int 1, .int x2], hp nS M)) (by with_unfolding_all rfl)).trans ?_
  exact eq_cmp_ge (by with_unfolding_all rfl)
set_option maxRecDepth 20000 in
theorem b_148_45 {d nS : Nat} {x0 x1 x2 x3 x4 : Int32} {zx5 : Value} {M : am_M} {Q : Option Value → am_H → Prop} : am_Wp d 148 45 [.int x0, .int x1, .int x2, .int x3, .int x4, zx5] [] (hp nS M) Q = am_Wp d 148 50 [.int x0, .int x1, .int x2, .int x3, .int x4, zx5] [.int 1] (hp nS M) Q := by
  exact eq_run 2 (q := (50, [.int x0, .int x1, .int x2, .int x3, .int x4, zx5], [.int 1], hp nS M)) (by with_unfolding_all rfl)
set_option maxRecDepth 20000 in
theorem b_148_49 {d nS : Nat} {x0 x1 x2 x3 x4 : Int32} {zx5 : Value} {M : am_M} {Q : Option Value → am_H → Prop} : am_Wp d 148 49 [.int x0, .int x1, .int x2, .int x3, .int x4, zx5] [] (hp nS M) Q = am_Wp d 148 50 [.int x0, .int x1, .int x2, .int x3, .int x4, zx5] [.int x2] (hp nS M) Q := by
  exact eq_run 1 (q := (50, [.int x0, .int x1, .int x2, .int x3, .int x4, zx5], [.int x2], hp nS M)) (by with_unfolding_all rfl)
set_option maxRecDepth 20000 in
theorem b_148_50 {d nS : Nat} {x0 x1 x2 x3 x4 s0 : Int32} {zx5 : Value} {M : am_M} {Q : Option Value → am_H → Prop} : am_Wp d 148 50 [.int x0, .int x1, .int x2, .int x3, .int x4, zx5] [.int s0] (hp nS M) Q = Q (some (.int s0)) (hp nS M) := by
  exact eq_retI2 (e := (.ireturn, 1, 0, 0, 0)) (t := .int) (by with_unfolding_all rfl) rfl (by with_unfolding_all rfl) rfl
-- LarkExchange parts(III)I (149, (16, None, None, None))
set_option maxRecDepth 20000 in
theorem b_149_0 {d nS : Nat} {x1 x2 x3 : Int32} {M : am_M} {Q : Option Value → am_H → Prop} : am_Wp (d + 1) 149 0 [.ref 16, .int x1, .int x2, .int x3] [] (hp nS M) Q = am_Wp d 125 0 [.int x1, .int 1, .int 12] [] (hp nS M) (fun v h1 => am_Wp (d + 1) 149 7 [.ref 16, .int x1, .int x2, .int x3] (am_ans v []) h1 Q) := by
  refine (eq_run 3 (q := (4, [.ref 16, .int x1, .int x2, .int x3], [.int 12, .int 1, .int x1], hp nS M)) (by with_unfolding_all rfl)).trans ?_
  exact eq_call2 (e := (.invokestatic 57, 3, 1, 125, 7)) (as := [.int x1, .int 1, .int 12]) (r := []) (n := 3) (m := 3) (by with_unfolding_all rfl) rfl (by decide) (by with_unfolding_all rfl) (by decide) (by with_unfolding_all rfl) ⟨fun z => absurd z (by decide), fun z => by simp at z⟩
set_option maxRecDepth 20000 in
theorem b_149_7 {d nS : Nat} {x1 x2 x3 s0 : Int32} {M : am_M} {Q : Option Value → am_H → Prop} : am_Wp d 149 7 [.ref 16, .int x1, .int x2, .int x3] [.int s0] (hp nS M) Q = if ¬ s0 = 0 then am_Wp d 149 34 [.ref 16, .int x1, .int x2, .int x3] [] (hp nS M) Q else am_Wp d 149 10 [.ref 16, .int x1, .int x2, .int x3] [] (hp nS M) Q := by
  exact eq_if_ne (by with_unfolding_all rfl)
set_option maxRecDepth 20000 in
theorem b_149_10 {d nS : Nat} {x1 x2 x3 : Int32} {M : am_M} {Q : Option Value → am_H → Prop} : am_Wp (d + 1) 149 10 [.ref 16, .int x1, .int x2, .int x3] [] (hp nS M) Q = am_Wp d 125 0 [.int x2, .int 1, .int 12] [] (hp nS M) (fun v h1 => am_Wp (d + 1) 149 17 [.ref 16, .int x1, .int x2, .int x3] (am_ans v []) h1 Q) := by
  refine (eq_run 3 (q := (14, [.ref 16, .int x1, .int x2, .int x3], [.int 12, .int 1, .int x2], hp nS M)) (by with_unfolding_all rfl)).trans ?_
  exact eq_call2 (e := (.invokestatic 57, 3, 1, 125, 7)) (as := [.int x2, .int 1, .int 12]) (r := []) (n := 3) (m := 3) (by with_unfolding_all rfl) rfl (by decide) (by with_unfolding_all rfl) (by decide) (by with_unfolding_all rfl) ⟨fun z => absurd z (by decide), fun z => by simp at z⟩
set_option maxRecDepth 20000 in
theorem b_149_17 {d nS : Nat} {x1 x2 x3 s0 : Int32} {M : am_M} {Q : Option Value → am_H → Prop} : am_Wp d 149 17 [.ref 16, .int x1, .int x2, .int x3] [.int s0] (hp nS M) Q = if ¬ s0 = 0 then am_Wp d 149 34 [.ref 16, .int x1, .int x2, .int x3] [] (hp nS M) Q else am_Wp d 149 20 [.ref 16, .int x1, .int x2, .int x3] [] (hp nS M) Q := by
  exact eq_if_ne (by with_unfolding_all rfl)
set_option maxRecDepth 20000 in
theorem b_149_20 {d nS : Nat} {x1 x2 x3 : Int32} {M : am_M} {Q : Option Value → am_H → Prop} : am_Wp d 149 20 [.ref 16, .int x1, .int x2, .int x3] [] (hp nS M) Q = if x2 ≤ x1 then am_Wp d 149 34 [.ref 16, .int x1, .int x2, .int x3] [] (hp nS M) Q else am_Wp d 149 25 [.ref 16, .int x1, .int x2, .int x3] [] (hp nS M) Q := by
  refine (eq_run 2 (q := (22, [.ref 16, .int x1, .int x2, .int x3], [.int x2, .int x1], hp nS M)) (by with_unfolding_all rfl)).trans ?_
  exact eq_cmp_ge (by with_unfolding_all rfl)
set_option maxRecDepth 20000 in
theorem b_149_25 {d nS : Nat} {x1 x2 x3 : Int32} {M : am_M} {Q : Option Value → am_H → Prop} : am_Wp (d + 1) 149 25 [.ref 16, .int x1, .int x2, .int x3] [] (hp nS M) Q = am_Wp d 125 0 [.int x3, .int 0, .int 4] [] (hp nS M) (fun v h1 => am_Wp (d + 1) 149 31 [.ref 16, .int x1, .int x2, .int x3] (am_ans v []) h1 Q) := by
  refine (eq_run 3 (q := (28, [.ref 16, .int x1, .int x2, .int x3], [.int 4, .int 0, .int x3], hp nS M)) (by with_unfolding_all rfl)).trans ?_
  exact eq_call2 (e := (.invokestatic 57, 3, 1, 125, 7)) (as := [.int x3, .int 0, .int 4]) (r := []) (n := 3) (m := 3) (by with_unfolding_all rfl) rfl (by decide) (by with_unfolding_all rfl) (by decide) (by with_unfolding_all rfl) ⟨fun z => absurd z (by decide), fun z => by simp at z⟩
set_option maxRecDepth 20000 in
theorem b_149_31 {d nS : Nat} {x1 x2 x3 s0 : Int32} {M : am_M} {Q : Option Value → am_H → Prop} : am_Wp d 149 31 [.ref 16, .int x1, .int x2, .int x3] [.int s0] (hp nS M) Q = if s0 = 0 then am_Wp d 149 36 [.ref 16, .int x1, .int x2, .int x3] [] (hp nS M) Q else am_Wp d 149 34 [.ref 16, .int x1, .int x2, .int x3] [] (hp nS M) Q := by
  exact eq_if_eq (by with_unfolding_all rfl)
set_option maxRecDepth 20000 in
theorem b_149_34 {d nS : Nat} {x1 x2 x3 : Int32} {M : am_M} {Q : Option Value → am_H → Prop} : am_Wp d 149 34 [.ref 16, .int x1, .int x2, .int x3] [] (hp nS M) Q = Q (some (.int (-1))) (hp nS M) := by
  refine (eq_run 1 (q := (35, [.ref 16, .int x1, .int x2, .int x3], [.int (-1)], hp nS M)) (by with_unfolding_all rfl)).trans ?_
  exact eq_retI2 (e := (.ireturn, 1, 0, 0, 0)) (t := .int) (by with_unfolding_all rfl) rfl (by with_unfolding_all rfl) rfl
set_option maxRecDepth 20000 in
theorem b_149_36 {d nS : Nat} {x1 x2 x3 : Int32} {M : am_M} {Q : Option Value → am_H → Prop} : am_Wp (d + 1) 149 36 [.ref 16, .int x1, .int x2, .int x3] [] (hp nS M) Q = am_Wp d 78 0 [.int x1, .int x2, .int x3, .retAddr 0, .retAddr 0, .retAddr 0, .retAddr 0, .retAddr 0, .retAddr 0, .retAddr 0] [] (hp nS M) (fun v h1 => am_Wp (d + 1) 149 42 [.ref 16, .int x1, .int x2, .int x3] (am_ans v []) h1 Q) := by
  refine (eq_run 3 (q := (39, [.ref 16, .int x1, .int x2, .int x3], [.int x3, .int x2, .int x1], hp nS M)) (by with_unfolding_all rfl)).trans ?_
  exact eq_call2 (e := (.invokestatic 259, 3, 1, 78, 38)) (as := [.int x1, .int x2, .int x3]) (r := []) (n := 3) (m := 10) (by with_unfolding_all rfl) rfl (by decide) (by with_unfolding_all rfl) (by decide) (by with_unfolding_all rfl) ⟨fun z => absurd z (by decide), fun z => by simp at z⟩
set_option maxRecDepth 20000 in
theorem b_149_42 {d nS : Nat} {x1 x2 x3 s0 : Int32} {M : am_M} {Q : Option Value → am_H → Prop} : am_Wp d 149 42 [.ref 16, .int x1, .int x2, .int x3] [.int s0] (hp nS M) Q = Q (some (.int s0)) (hp nS M) := by
  exact eq_retI2 (e := (.ireturn, 1, 0, 0, 0)) (t := .int) (by with_unfolding_all rfl) rfl (by with_unfolding_all rfl) rfl
-- LarkExchange loaves(III)I (150, (16, None, None, None))
set_option maxRecDepth 20000 in
theorem b_150_0 {d nS : Nat} {x1 x2 x3 : Int32} {M : am_M} {Q : Option Value → am_H → Prop} : am_Wp (d + 1) 150 0 [.ref 16, .int x1, .int x2, .int x3, .retAddr 0] [] (hp nS M) Q = am_Wp d 125 0 [.int x1, .int 1, .int 60] [] (hp nS M) (fun v h1 => am_Wp (d + 1) 150 7 [.ref 16, .int x1, .int x2, .int x3, .retAddr 0] (am_ans v []) h1 Q) := by
  refine (eq_run 3 (q := (4, [.ref 16, .int x1, .int x2, .int x3, .retAddr 0], [.int 60, .int 1, .int x1], hp nS M)) (by with_unfolding_all rfl)).trans ?_
  exact eq_call2 (e := (.invokestatic 57, 3, 1, 125, 7)) (as := [.int x1, .int 1, .int 60]) (r := []) (n := 3) (m := 3) (by with_unfolding_all rfl) rfl (by decide) (by with_unfolding_all rfl) (by decide) (by with_unfolding_all rfl) ⟨fun z => absurd z (by decide), fun z => by simp at z⟩
set_option maxRecDepth 20000 in
theorem b_150_7 {d nS : Nat} {x1 x2 x3 s0 : Int32} {M : am_M} {Q : Option Value → am_H → Prop} : am_Wp d 150 7 [.ref 16, .int x1, .int x2, .int x3, .retAddr 0] [.int s0] (hp nS M) Q = if ¬ s0 = 0 then am_Wp d 150 29 [.ref 16, .int x1, .int x2, .int x3, .retAddr 0] [] (hp nS M) Q else am_Wp d 150 10 [.ref 16, .int x1, .int x2, .int x3, .retAddr 0] [] (hp nS M) Q := by
  exact eq_if_ne (by with_unfolding_all rfl)
set_option maxRecDepth 20000 in
theorem b_150_10 {d nS : Nat} {x1 x2 x3 : Int32} {M : am_M} {Q : Option Value → am_H → Prop} : am_Wp (d + 1) 150 10 [.ref 16, .int x1, .int x2, .int x3, .retAddr 0] [] (hp nS M) Q = am_Wp d 125 0 [.int x2, .int 1, .int 60] [] (hp nS M) (fun v h1 => am_Wp (d + 1) 150 17 [.ref 16, .int x1, .int x2, .int x3, .retAddr 0] (am_ans v []) h1 Q) := by
  refine (eq_run 3 (q := (14, [.ref 16, .int x1, .int x2, .int x3, .retAddr 0], [.int 60, .int 1, .int x2], hp nS M)) (by with_unfolding_all rfl)).trans ?_
  exact eq_call2 (e := (.invokestatic 57, 3, 1, 125, 7)) (as := [.int x2, .int 1, .int 60]) (r := []) (n := 3) (m := 3) (by with_unfolding_all rfl) rfl (by decide) (by with_unfolding_all rfl) (by decide) (by with_unfolding_all rfl) ⟨fun z => absurd z (by decide), fun z => by simp at z⟩
set_option maxRecDepth 20000 in
theorem b_150_17 {d nS : Nat} {x1 x2 x3 s0 : Int32} {M : am_M} {Q : Option Value → am_H → Prop} : am_Wp d 150 17 [.ref 16, .int x1, .int x2, .int x3, .retAddr 0] [.int s0] (hp nS M) Q = if ¬ s0 = 0 then am_Wp d 150 29 [.ref 16, .int x1, .int x2, .int x3, .retAddr 0] [] (hp nS M) Q else am_Wp d 150 20 [.ref 16, .int x1, .int x2, .int x3, .retAddr 0] [] (hp nS M) Q := by
  exact eq_if_ne (by with_unfolding_all rfl)
set_option maxRecDepth 20000 in
theorem b_150_20 {d nS : Nat} {x1 x2 x3 : Int32} {M : am_M} {Q : Option Value → am_H → Prop} : am_Wp (d + 1) 150 20 [.ref 16, .int x1, .int x2, .int x3, .retAddr 0] [] (hp nS M) Q = am_Wp d 125 0 [.int x3, .int 0, .int 2] [] (hp nS M) (fun v h1 => am_Wp (d + 1) 150 26 [.ref 16, .int x1, .int x2, .int x3, .retAddr 0] (am_ans v []) h1 Q) := by
  refine (eq_run 3 (q := (23, [.ref 16, .int x1, .int x2, .int x3, .retAddr 0], [.int 2, .int 0, .int x3], hp nS M)) (by with_unfolding_all rfl)).trans ?_
  exact eq_call2 (e := (.invokestatic 57, 3, 1, 125, 7)) (as := [.int x3, .int 0, .int 2]) (r := []) (n := 3) (m := 3) (by with_unfolding_all rfl) rfl (by decide) (by with_unfolding_all rfl) (by decide) (by with_unfolding_all rfl) ⟨fun z => absurd z (by decide), fun z => by simp at z⟩
set_option maxRecDepth 20000 in
theorem b_150_26 {d nS : Nat} {x1 x2 x3 s0 : Int32} {M : am_M} {Q : Option Value → am_H → Prop} : am_Wp d 150 26 [.ref 16, .int x1, .int x2, .int x3, .retAddr 0] [.int s0] (hp nS M) Q = if s0 = 0 then am_Wp d 150 31 [.ref 16, .int x1, .int x2, .int x3, .retAddr 0] [] (hp nS M) Q else am_Wp d 150 29 [.ref 16, .int x1, .int x2, .int x3, .retAddr 0] [] (hp nS M) Q := by
  exact eq_if_eq (by with_unfolding_all rfl)
set_option maxRecDepth 20000 in
theorem b_150_29 {d nS : Nat} {x1 x2 x3 : Int32} {M : am_M} {Q : Option Value → am_H → Prop} : am_Wp d 150 29 [.ref 16, .int x1, .int x2, .int x3, .retAddr 0] [] (hp nS M) Q = Q (some (.int (-1))) (hp nS M) := by
  refine (eq_run 1 (q := (30, [.ref 16, .int x1, .int x2, .int x3, .retAddr 0], [.int (-1)], hp nS M)) (by with_unfolding_all rfl)).trans ?_
  exact eq_retI2 (e := (.ireturn, 1, 0, 0, 0)) (t := .int) (by with_unfolding_all rfl) rfl (by with_unfolding_all rfl) rfl
set_option maxRecDepth 20000 in
theorem b_150_31 {d nS : Nat} {x1 x2 x3 : Int32} {M : am_M} {Q : Option Value → am_H → Prop} : am_Wp (d + 1) 150 31 [.ref 16, .int x1, .int x2, .int x3, .retAddr 0] [] (hp nS M) Q = am_Wp d 148 0 [.int x1, .int x2, .retAddr 0, .retAddr 0, .retAddr 0, .retAddr 0] [] (hp nS M) (fun v h1 => am_Wp (d + 1) 150 36 [.ref 16, .int x1, .int x2, .int x3, .retAddr 0] (am_ans v []) h1 Q) := by
  refine (eq_run 2 (q := (33, [.ref 16, .int x1, .int x2, .int x3, .retAddr 0], [.int x2, .int x1], hp nS M)) (by with_unfolding_all rfl)).trans ?_
  exact eq_call2 (e := (.invokestatic 263, 3, 1, 148, 39)) (as := [.int x1, .int x2]) (r := []) (n := 2) (m := 6) (by with_unfolding_all rfl) rfl (by decide) (by with_unfolding_all rfl) (by decide) (by with_unfolding_all rfl) ⟨fun z => absurd z (by decide), fun z => by simp at z⟩
set_option maxRecDepth 20000 in
theorem b_150_36 {d nS : Nat} {x1 x2 x3 s0 : Int32} {M : am_M} {Q : Option Value → am_H → Prop} : am_Wp d 150 36 [.ref 16, .int x1, .int x2, .int x3, .retAddr 0] [.int s0] (hp nS M) Q = if ¬ x3 = 0 then am_Wp d 150 49 [.ref 16, .int x1, .int x2, .int x3, .int s0] [] (hp nS M) Q else am_Wp d 150 42 [.ref 16, .int x1, .int x2, .int x3, .int s0] [] (hp nS M) Q := by
  refine (eq_run 2 (q := (39, [.ref 16, .int x1, .int x2, .int x3, .int s0], [.int x3], hp nS M)) (by with_unfolding_all rfl)).trans ?_
  exact eq_if_ne (by with_unfolding_all rfl)
set_option maxRecDepth 20000 in
theorem b_150_42 {d nS : Nat} {x1 x2 x3 x4 : Int32} {M : am_M} {Q : Option Value → am_H → Prop} : am_Wp d 150 42 [.ref 16, .int x1, .int x2, .int x3, .int x4] [] (hp nS M) Q = Q (some (.int ((x1 + x2) - x4))) (hp nS M) := by
  refine (eq_run 5 (q := (48, [.ref 16, .int x1, .int x2, .int x3, .int x4], [.int ((x1 + x2) - x4)], hp nS M)) (by with_unfolding_all rfl)).trans ?_
  exact eq_retI2 (e := (.ireturn, 1, 0, 0, 0)) (t := .int) (by with_unfolding_all rfl) rfl (by with_unfolding_all rfl) rfl
set_option maxRecDepth 20000 in
theorem b_150_49 {d nS : Nat} {x1 x2 x3 x4 : Int32} {M : am_M} {Q : Option Value → am_H → Prop} : am_Wp d 150 49 [.ref 16, .int x1, .int x2, .int x3, .int x4] [] (hp nS M) Q = if ¬ x3 = 1 then am_Wp d 150 61 [.ref 16, .int x1, .int x2, .int x3, .int x4] [] (hp nS M) Q else am_Wp d 150 54 [.ref 16, .int x1, .int x2, .int x3, .int x4] [] (hp nS M) Q := by
  refine (eq_run 2 (q := (51, [.ref 16, .int x1, .int x2, .int x3, .int x4], [.int 1, .int x3], hp nS M)) (by with_unfolding_all rfl)).trans ?_
  exact eq_cmp_ne (by with_unfolding_all rfl)
set_option maxRecDepth 20000 in
theorem b_150_54 {d nS : Nat} {x1 x2 x3 x4 : Int32} {M : am_M} {Q : Option Value → am_H → Prop} (h1 : ¬ x4 = 0) : am_Wp d 150 54 [.ref 16, .int x1, .int x2, .int x3, .int x4] [] (hp nS M) Q = am_Wp d 150 65 [.ref 16, .int x1, .int x2, .int x3, .int x4] [.int (x1 / x4)] (hp nS M) Q := by
  refine (eq_run 2 (q := (57, [.ref 16, .int x1, .int x2, .int x3, .int x4], [.int x4, .int x1], hp nS M)) (by with_unfolding_all rfl)).trans ?_
  refine (eq_div (e := (.idiv, 1, 0, 0, 0)) (by with_unfolding_all rfl) rfl h1).trans ?_
  exact eq_run 1 (q := (65, [.ref 16, .int x1, .int x2, .int x3, .int x4], [.int (x1 / x4)], hp nS M)) (by with_unfolding_all rfl)
set_option maxRecDepth 20000 in
theorem b_150_61 {d nS : Nat} {x1 x2 x3 x4 : Int32} {M : am_M} {Q : Option Value → am_H → Prop} (h1 : ¬ x4 = 0) : am_Wp d 150 61 [.ref 16, .int x1, .int x2, .int x3, .int x4] [] (hp nS M) Q = am_Wp d 150 65 [.ref 16, .int x1, .int x2, .int x3, .int x4] [.int (x2 / x4)] (hp nS M) Q := by
  refine (eq_run 2 (q := (64, [.ref 16, .int x1, .int x2, .int x3, .int x4], [.int x4, .int x2], hp nS M)) (by with_unfolding_all rfl)).trans ?_
  exact eq_div (e := (.idiv, 1, 0, 0, 0)) (by with_unfolding_all rfl) rfl h1
set_option maxRecDepth 20000 in
theorem b_150_65 {d nS : Nat} {x1 x2 x3 x4 s0 : Int32} {M : am_M} {Q : Option Value → am_H → Prop} : am_Wp d 150 65 [.ref 16, .int x1, .int x2, .int x3, .int x4] [.int s0] (hp nS M) Q = Q (some (.int s0)) (hp nS M) := by
  exact eq_retI2 (e := (.ireturn, 1, 0, 0, 0)) (t := .int) (by with_unfolding_all rfl) rfl (by with_unfolding_all rfl) rfl
-- LarkExchange sticks(II)I (151, (16, None, None))
set_option maxRecDepth 20000 in
theorem b_151_0 {d nS : Nat} {x1 x2 : Int32} {M : am_M} {Q : Option Value → am_H → Prop} : am_Wp d 151 0 [.ref 16, .int x1, .int x2] [] (hp nS M) Q = if ¬ x2 = 0 then am_Wp d 151 20 [.ref 16, .int x1, .int x2] [] (hp nS M) Q else am_Wp d 151 4 [.ref 16, .int x1, .int x2] [] (hp nS M) Q := by
  refine (eq_run 1 (q := (1, [.ref 16, .int x1, .int x2], [.int x2], hp nS M)) (by with_unfolding_all rfl)).trans ?_
  exact eq_if_ne (by with_unfolding_all rfl)
set_option maxRecDepth 20000 in
theorem b_151_4 {d nS : Nat} {x1 x2 : Int32} {M : am_M} {Q : Option Value → am_H → Prop} : am_Wp (d + 1) 151 4 [.ref 16, .int x1, .int x2] [] (hp nS M) Q = am_Wp d 125 0 [.int x1, .int 0, .int 99999] [] (hp nS M) (fun v h1 => am_Wp (d + 1) 151 12 [.ref 16, .int x1, .int x2] (am_ans v []) h1 Q) := by
  refine (eq_run 3 (q := (9, [.ref 16, .int x1, .int x2], [.int 99999, .int 0, .int x1], hp nS M)) (by with_unfolding_all rfl)).trans ?_
  exact eq_call2 (e := (.invokestatic 57, 3, 1, 125, 7)) (as := [.int x1, .int 0, .int 99999]) (r := []) (n := 3) (m := 3) (by with_unfolding_all rfl) rfl (by decide) (by with_unfolding_all rfl) (by decide) (by with_unfolding_all rfl) ⟨fun z => absurd z (by decide), fun z => by simp at z⟩
set_option maxRecDepth 20000 in
theorem b_151_12 {d nS : Nat} {x1 x2 s0 : Int32} {M : am_M} {Q : Option Value → am_H → Prop} : am_Wp d 151 12 [.ref 16, .int x1, .int x2] [.int s0] (hp nS M) Q = if ¬ s0 = 0 then am_Wp d 151 20 [.ref 16, .int x1, .int x2] [] (hp nS M) Q else am_Wp d 151 15 [.ref 16, .int x1, .int x2] [] (hp nS M) Q := by
  exact eq_if_ne (by with_unfolding_all rfl)
set_option maxRecDepth 20000 in
theorem b_151_15 {d nS : Nat} {x1 x2 : Int32} {M : am_M} {Q : Option Value → am_H → Prop} : am_Wp (d + 1) 151 15 [.ref 16, .int x1, .int x2] [] (hp nS M) Q = am_Wp d 79 0 [.int x1, .retAddr 0, .retAddr 0] [] (hp nS M) (fun v h1 => am_Wp (d + 1) 151 19 [.ref 16, .int x1, .int x2] (am_ans v []) h1 Q) := by
  refine (eq_run 1 (q := (16, [.ref 16, .int x1, .int x2], [.int x1], hp nS M)) (by with_unfolding_all rfl)).trans ?_
  exact eq_call2 (e := (.invokestatic 267, 3, 1, 79, 40)) (as := [.int x1]) (r := []) (n := 1) (m := 3) (by with_unfolding_all rfl) rfl (by decide) (by with_unfolding_all rfl) (by decide) (by with_unfolding_all rfl) ⟨fun z => absurd z (by decide), fun z => by simp at z⟩
set_option maxRecDepth 20000 in
theorem b_151_19 {d nS : Nat} {x1 x2 s0 : Int32} {M : am_M} {Q : Option Value → am_H → Prop} : am_Wp d 151 19 [.ref 16, .int x1, .int x2] [.int s0] (hp nS M) Q = Q (some (.int s0)) (hp nS M) := by
  exact eq_retI2 (e := (.ireturn, 1, 0, 0, 0)) (t := .int) (by with_unfolding_all rfl) rfl (by with_unfolding_all rfl) rfl
set_option maxRecDepth 20000 in
theorem b_151_20 {d nS : Nat} {x1 x2 : Int32} {M : am_M} {Q : Option Value → am_H → Prop} : am_Wp d 151 20 [.ref 16, .int x1, .int x2] [] (hp nS M) Q = if ¬ x2 = 1 then am_Wp d 151 42 [.ref 16, .int x1, .int x2] [] (hp nS M) Q else am_Wp d 151 25 [.ref 16, .int x1, .int x2] [] (hp nS M) Q := by
  refine (eq_run 2 (q := (22, [.ref 16, .int x1, .int x2], [.int 1, .int x2], hp nS M)) (by with_unfolding_all rfl)).trans ?_
  exact eq_cmp_ne (by with_unfolding_all rfl)
set_option maxRecDepth 20000 in
theorem b_151_25 {d nS : Nat} {x1 x2 : Int32} {M : am_M} {Q : Option Value → am_H → Prop} : am_Wp (d + 1) 151 25 [.ref 16, .int x1, .int x2] [] (hp nS M) Q = am_Wp d 125 0 [.int x1, .int 2, .int 42] [] (hp nS M) (fun v h1 => am_Wp (d + 1) 151 32 [.ref 16, .int x1, .int x2] (am_ans v []) h1 Q) := by
  refine (eq_run 3 (q := (29, [.ref 16, .int x1, .int x2], [.int 42, .int 2, .int x1], hp nS M)) (by with_unfolding_all rfl)).trans ?_
  exact eq_call2 (e := (.invokestatic 57, 3, 1, 125, 7)) (as := [.int x1, .int 2, .int 42]) (r := []) (n := 3) (m := 3) (by with_unfolding_all rfl) rfl (by decide) (by with_unfolding_all rfl) (by decide) (by with_unfolding_all rfl) ⟨fun z => absurd z (by decide), fun z => by simp at z⟩
set_option maxRecDepth 20000 in
theorem b_151_32 {d nS : Nat} {x1 x2 s0 : Int32} {M : am_M} {Q : Option Value → am_H → Prop} : am_Wp d 151 32 [.ref 16, .int x1, .int x2] [.int s0] (hp nS M) Q = if ¬ s0 = 0 then am_Wp d 151 42 [.ref 16, .int x1, .int x2] [] (hp nS M) Q else am_Wp d 151 35 [.ref 16, .int x1, .int x2] [] (hp nS M) Q := by
  exact eq_if_ne (by with_unfolding_all rfl)
set_option maxRecDepth 20000 in
theorem b_151_35 {d nS : Nat} {x1 x2 : Int32} {M : am_M} {Q : Option Value → am_H → Prop} : am_Wp (d + 1) 151 35 [.ref 16, .int x1, .int x2] [] (hp nS M) Q = am_Wp d 80 0 [.int x1, .retAddr 0, .retAddr 0, .retAddr 0, .retAddr 0, .retAddr 0] [] (hp nS M) (fun v h1 => am_Wp (d + 1) 151 39 [.ref 16, .int x1, .int x2] (am_ans v []) h1 Q) := by
  refine (eq_run 1 (q := (36, [.ref 16, .int x1, .int x2], [.int x1], hp nS M)) (by with_unfolding_all rfl)).trans ?_
  exact eq_call2 (e := (.invokestatic 270, 3, 1, 80, 41)) (as := [.int x1]) (r := []) (n := 1) (m := 6) (by with_unfolding_all rfl) rfl (by decide) (by with_unfolding_all rfl) (by decide) (by with_unfolding_all rfl) ⟨fun z => absurd z (by decide), fun z => by simp at z⟩
set_option maxRecDepth 20000 in
theorem b_151_39 {d nS : Nat} {x1 x2 s0 : Int32} {M : am_M} {Q : Option Value → am_H → Prop} : am_Wp d 151 39 [.ref 16, .int x1, .int x2] [.int s0] (hp nS M) Q = am_Wp d 151 43 [.ref 16, .int x1, .int x2] [.int s0] (hp nS M) Q := by
  exact eq_run 1 (q := (43, [.ref 16, .int x1, .int x2], [.int s0], hp nS M)) (by with_unfolding_all rfl)
set_option maxRecDepth 20000 in
theorem b_151_42 {d nS : Nat} {x1 x2 : Int32} {M : am_M} {Q : Option Value → am_H → Prop} : am_Wp d 151 42 [.ref 16, .int x1, .int x2] [] (hp nS M) Q = am_Wp d 151 43 [.ref 16, .int x1, .int x2] [.int (-1)] (hp nS M) Q := by
  exact eq_run 1 (q := (43, [.ref 16, .int x1, .int x2], [.int (-1)], hp nS M)) (by with_unfolding_all rfl)
set_option maxRecDepth 20000 in
theorem b_151_43 {d nS : Nat} {x1 x2 s0 : Int32} {M : am_M} {Q : Option Value → am_H → Prop} : am_Wp d 151 43 [.ref 16, .int x1, .int x2] [.int s0] (hp nS M) Q = Q (some (.int s0)) (hp nS M) := by
  exact eq_retI2 (e := (.ireturn, 1, 0, 0, 0)) (t := .int) (by with_unfolding_all rfl) rfl (by with_unfolding_all rfl) rfl
-- LarkExchange twos(II)I (152, (16, None, None))
set_option maxRecDepth 20000 in
theorem b_152_0 {d nS : Nat} {x1 x2 : Int32} {M : am_M} {Q : Option Value → am_H → Prop} : am_Wp (d + 1) 152 0 [.ref 16, .int x1, .int x2, .retAddr 0] [] (hp nS M) Q = am_Wp d 125 0 [.int x1, .int (-9999), .int 9999] [] (hp nS M) (fun v h1 => am_Wp (d + 1) 152 10 [.ref 16, .int x1, .int x2, .retAddr 0] (am_ans v []) h1 Q) := by
  refine (eq_run 3 (q := (7, [.ref 16, .int x1, .int x2, .retAddr 0], [.int 9999, .int (-9999), .int x1], hp nS M)) (by with_unfolding_all rfl)).trans ?_
  exact eq_call2 (e := (.invokestatic 57, 3, 1, 125, 7)) (as := [.int x1, .int (-9999), .int 9999]) (r := []) (n := 3) (m := 3) (by with_unfolding_all rfl) rfl (by decide) (by with_unfolding_all rfl) (by decide) (by with_unfolding_all rfl) ⟨fun z => absurd z (by decide), fun z => by simp at z⟩
set_option maxRecDepth 20000 in
theorem b_152_10 {d nS : Nat} {x1 x2 s0 : Int32} {M : am_M} {Q : Option Value → am_H → Prop} : am_Wp d 152 10 [.ref 16, .int x1, .int x2, .retAddr 0] [.int s0] (hp nS M) Q = if ¬ s0 = 0 then am_Wp d 152 22 [.ref 16, .int x1, .int x2, .retAddr 0] [] (hp nS M) Q else am_Wp d 152 13 [.ref 16, .int x1, .int x2, .retAddr 0] [] (hp nS M) Q := by
  exact eq_if_ne (by with_unfolding_all rfl)
set_option maxRecDepth 20000 in
theorem b_152_13 {d nS : Nat} {x1 x2 : Int32} {M : am_M} {Q : Option Value → am_H → Prop} : am_Wp (d + 1) 152 13 [.ref 16, .int x1, .int x2, .retAddr 0] [] (hp nS M) Q = am_Wp d 125 0 [.int x2, .int 0, .int 1] [] (hp nS M) (fun v h1 => am_Wp (d + 1) 152 19 [.ref 16, .int x1, .int x2, .retAddr 0] (am_ans v []) h1 Q) := by
  refine (eq_run 3 (q := (16, [.ref 16, .int x1, .int x2, .retAddr 0], [.int 1, .int 0, .int x2], hp nS M)) (by with_unfolding_all rfl)).trans ?_
  exact eq_call2 (e := (.invokestatic 57, 3, 1, 125, 7)) (as := [.int x2, .int 0, .int 1]) (r := []) (n := 3) (m := 3) (by with_unfolding_all rfl) rfl (by decide) (by with_unfolding_all rfl) (by decide) (by with_unfolding_all rfl) ⟨fun z => absurd z (by decide), fun z => by simp at z⟩
set_option maxRecDepth 20000 in
theorem b_152_19 {d nS : Nat} {x1 x2 s0 : Int32} {M : am_M} {Q : Option Value → am_H → Prop} : am_Wp d 152 19 [.ref 16, .int x1, .int x2, .retAddr 0] [.int s0] (hp nS M) Q = if s0 = 0 then am_Wp d 152 24 [.ref 16, .int x1, .int x2, .retAddr 0] [] (hp nS M) Q else am_Wp d 152 22 [.ref 16, .int x1, .int x2, .retAddr 0] [] (hp nS M) Q := by
  exact eq_if_eq (by with_unfolding_all rfl)
set_option maxRecDepth 20000 in
theorem b_152_22 {d nS : Nat} {x1 x2 : Int32} {M : am_M} {Q : Option Value → am_H → Prop} : am_Wp d 152 22 [.ref 16, .int x1, .int x2, .retAddr 0] [] (hp nS M) Q = Q (some (.int (-1))) (hp nS M) := by
  refine (eq_run 1 (q := (23, [.ref 16, .int x1, .int x2, .retAddr 0], [.int (-1)], hp nS M)) (by with_unfolding_all rfl)).trans ?_
  exact eq_retI2 (e := (.ireturn, 1, 0, 0, 0)) (t := .int) (by with_unfolding_all rfl) rfl (by with_unfolding_all rfl) rfl
set_option maxRecDepth 20000 in
theorem b_152_24 {d nS : Nat} {x1 x2 : Int32} {M : am_M} {Q : Option Value → am_H → Prop} : am_Wp (d + 1) 152 24 [.ref 16, .int x1, .int x2, .retAddr 0] [] (hp nS M) Q = am_Wp d 81 0 [.int x1, .retAddr 0, .retAddr 0, .retAddr 0, .retAddr 0] [] (hp nS M) (fun v h1 => am_Wp (d + 1) 152 28 [.ref 16, .int x1, .int x2, .retAddr 0] (am_ans v []) h1 Q) := by
  refine (eq_run 1 (q := (25, [.ref 16, .int x1, .int x2, .retAddr 0], [.int x1], hp nS M)) (by with_unfolding_all rfl)).trans ?_
  exact eq_call2 (e := (.invokestatic 273, 3, 1, 81, 42)) (as := [.int x1]) (r := []) (n := 1) (m := 5) (by with_unfolding_all rfl) rfl (by decide) (by with_unfolding_all rfl) (by decide) (by with_unfolding_all rfl) ⟨fun z => absurd z (by decide), fun z => by simp at z⟩
set_option maxRecDepth 20000 in
theorem b_152_28 {d nS : Nat} {x1 x2 s0 : Int32} {M : am_M} {Q : Option Value → am_H → Prop} : am_Wp d 152 28 [.ref 16, .int x1, .int x2, .retAddr 0] [.int s0] (hp nS M) Q = if ¬ x2 = 1 then am_Wp d 152 38 [.ref 16, .int x1, .int x2, .int s0] [] (hp nS M) Q else am_Wp d 152 34 [.ref 16, .int x1, .int x2, .int s0] [] (hp nS M) Q := by
  refine (eq_run 3 (q := (31, [.ref 16, .int x1, .int x2, .int s0], [.int 1, .int x2], hp nS M)) (by with_unfolding_all rfl)).trans ?_
  exact eq_cmp_ne (by with_unfolding_all rfl)
set_option maxRecDepth 20000 in
theorem b_152_34 {d nS : Nat} {x1 x2 x3 : Int32} {M : am_M} {Q : Option Value → am_H → Prop} : am_Wp d 152 34 [.ref 16, .int x1, .int x2, .int x3] [] (hp nS M) Q = am_Wp d 152 42 [.ref 16, .int x1, .int x2, .int x3] [.int x3] (hp nS M) Q := by
  exact eq_run 2 (q := (42, [.ref 16, .int x1, .int x2, .int x3], [.int x3], hp nS M)) (by with_unfolding_all rfl)
set_option maxRecDepth 20000 in
theorem b_152_38 {d nS : Nat} {x1 x2 x3 : Int32} {M : am_M} {Q : Option Value → am_H → Prop} : am_Wp (d + 1) 152 38 [.ref 16, .int x1, .int x2, .int x3] [] (hp nS M) Q = am_Wp d 82 0 [.int x3, .retAddr 0] [] (hp nS M) (fun v h1 => am_Wp (d + 1) 152 42 [.ref 16, .int x1, .int x2, .int x3] (am_ans v []) h1 Q) := by
  refine (eq_run 1 (q := (39, [.ref 16, .int x1, .int x2, .int x3], [.int x3], hp nS M)) (by with_unfolding_all rfl)).trans ?_
  exact eq_call2 (e := (.invokestatic 276, 3, 1, 82, 43)) (as := [.int x3]) (r := []) (n := 1) (m := 2) (by with_unfolding_all rfl) rfl (by decide) (by with_unfolding_all rfl) (by decide) (by with_unfolding_all rfl) ⟨fun z => absurd z (by decide), fun z => by simp at z⟩
set_option maxRecDepth 20000 in
theorem b_152_42 {d nS : Nat} {x1 x2 x3 s0 : Int32} {M : am_M} {Q : Option Value → am_H → Prop} : am_Wp d 152 42 [.ref 16, .int x1, .int x2, .int x3] [.int s0] (hp nS M) Q = Q (some (.int s0)) (hp nS M) := by
  exact eq_retI2 (e := (.ireturn, 1, 0, 0, 0)) (t := .int) (by with_unfolding_all rfl) rfl (by with_unfolding_all rfl) rfl
-- LarkExchange words(II)I (153, (16, None, None))
set_option maxRecDepth 20000 in
theorem b_153_0 {d nS : Nat} {x1 x2 : Int32} {M : am_M} {Q : Option Value → am_H → Prop} : am_Wp (d + 1) 153 0 [.ref 16, .int x1, .int x2] [] (hp nS M) Q = am_Wp d 125 0 [.int x1, .int 0, .int 999] [] (hp nS M) (fun v h1 => am_Wp (d + 1) 153 8 [.ref 16, .int x1, .int x2] (am_ans v []) h1 Q) := by
  refine (eq_run 3 (q := (5, [.ref 16, .int x1, .int x2], [.int 999, .int 0, .int x1], hp nS M)) (by with_unfolding_all rfl)).trans ?_
  exact eq_call2 (e := (.invokestatic 57, 3, 1, 125, 7)) (as := [.int x1, .int 0, .int 999]) (r := []) (n := 3) (m := 3) (by with_unfolding_all rfl) rfl (by decide) (by with_unfolding_all rfl) (by decide) (by with_unfolding_all rfl) ⟨fun z => absurd z (by decide), fun z => by simp at z⟩
set_option maxRecDepth 20000 in
theorem b_153_8 {d nS : Nat} {x1 x2 s0 : Int32} {M : am_M} {Q : Option Value → am_H → Prop} : am_Wp d 153 8 [.ref 16, .int x1, .int x2] [.int s0] (hp nS M) Q = if ¬ s0 = 0 then am_Wp d 153 20 [.ref 16, .int x1, .int x2] [] (hp nS M) Q else am_Wp d 153 11 [.ref 16, .int x1, .int x2] [] (hp nS M) Q := by
  exact eq_if_ne (by with_unfolding_all rfl)
set_option maxRecDepth 20000 in
theorem b_153_11 {d nS : Nat} {x1 x2 : Int32} {M : am_M} {Q : Option Value → am_H → Prop} : am_Wp (d + 1) 153 11 [.ref 16, .int x1, .int x2] [] (hp nS M) Q = am_Wp d 125 0 [.int x2, .int 0, .int 1] [] (hp nS M) (fun v h1 => am_Wp (d + 1) 153 17 [.ref 16, .int x1, .int x2] (am_ans v []) h1 Q) := by
  refine (eq_run 3 (q := (14, [.ref 16, .int x1, .int x2], [.int 1, .int 0, .int x2], hp nS M)) (by with_unfolding_all rfl)).trans ?_
  exact eq_call2 (e := (.invokestatic 57, 3, 1, 125, 7)) (as := [.int x2, .int 0, .int 1]) (r := []) (n := 3) (m := 3) (by with_unfolding_all rfl) rfl (by decide) (by with_unfolding_all rfl) (by decide) (by with_unfolding_all rfl) ⟨fun z => absurd z (by decide), fun z => by simp at z⟩
set_option maxRecDepth 20000 in
theorem b_153_17 {d nS : Nat} {x1 x2 s0 : Int32} {M : am_M} {Q : Option Value → am_H → Prop} : am_Wp d 153 17 [.ref 16, .int x1, .int x2] [.int s0] (hp nS M) Q = if s0 = 0 then am_Wp d 153 22 [.ref 16, .int x1, .int x2] [] (hp nS M) Q else am_Wp d 153 20 [.ref 16, .int x1, .int x2] [] (hp nS M) Q := by
  exact eq_if_eq (by with_unfolding_all rfl)
set_option maxRecDepth 20000 in
theorem b_153_20 {d nS : Nat} {x1 x2 : Int32} {M : am_M} {Q : Option Value → am_H → Prop} : am_Wp d 153 20 [.ref 16, .int x1, .int x2] [] (hp nS M) Q = Q (some (.int (-1))) (hp nS M) := by
  refine (eq_run 1 (q := (21, [.ref 16, .int x1, .int x2], [.int (-1)], hp nS M)) (by with_unfolding_all rfl)).trans ?_
  exact eq_retI2 (e := (.ireturn, 1, 0, 0, 0)) (t := .int) (by with_unfolding_all rfl) rfl (by with_unfolding_all rfl) rfl
set_option maxRecDepth 20000 in
theorem b_153_22 {d nS : Nat} {x1 x2 : Int32} {M : am_M} {Q : Option Value → am_H → Prop} : am_Wp d 153 22 [.ref 16, .int x1, .int x2] [] (hp nS M) Q = if ¬ x2 = 0 then am_Wp d 153 33 [.ref 16, .int x1, .int x2] [] (hp nS M) Q else am_Wp d 153 26 [.ref 16, .int x1, .int x2] [] (hp nS M) Q := by
  refine (eq_run 1 (q := (23, [.ref 16, .int x1, .int x2], [.int x2], hp nS M)) (by with_unfolding_all rfl)).trans ?_
  exact eq_if_ne (by with_unfolding_all rfl)
set_option maxRecDepth 20000 in
theorem b_153_26 {d nS : Nat} {x1 x2 : Int32} {M : am_M} {Q : Option Value → am_H → Prop} : am_Wp (d + 1) 153 26 [.ref 16, .int x1, .int x2] [] (hp nS M) Q = am_Wp d 83 0 [.int x1, .retAddr 0] [] (hp nS M) (fun v h1 => am_Wp (d + 1) 153 30 [.ref 16, .int x1, .int x2] (am_ans v []) h1 Q) := by
  refine (eq_run 1 (q := (27, [.ref 16, .int x1, .int x2], [.int x1], hp nS M)) (by with_unfolding_all rfl)).trans ?_
  exact eq_call2 (e := (.invokestatic 279, 3, 1, 83, 44)) (as := [.int x1]) (r := []) (n := 1) (m := 2) (by with_unfolding_all rfl) rfl (by decide) (by with_unfolding_all rfl) (by decide) (by with_unfolding_all rfl) ⟨fun z => absurd z (by decide), fun z => by simp at z⟩
set_option maxRecDepth 20000 in
theorem b_153_30 {d nS : Nat} {x1 x2 s0 : Int32} {M : am_M} {Q : Option Value → am_H → Prop} : am_Wp d 153 30 [.ref 16, .int x1, .int x2] [.int s0] (hp nS M) Q = am_Wp d 153 37 [.ref 16, .int x1, .int x2] [.int s0] (hp nS M) Q := by
  exact eq_run 1 (q := (37, [.ref 16, .int x1, .int x2], [.int s0], hp nS M)) (by with_unfolding_all rfl)
set_option maxRecDepth 20000 in
theorem b_153_33 {d nS : Nat} {x1 x2 : Int32} {M : am_M} {Q : Option Value → am_H → Prop} : am_Wp (d + 1) 153 33 [.ref 16, .int x1, .int x2] [] (hp nS M) Q = am_Wp d 85 0 [.int x1, .retAddr 0, .retAddr 0, .retAddr 0, .retAddr 0] [] (hp nS M) (fun v h1 => am_Wp (d + 1) 153 37 [.ref 16, .int x1, .int x2] (am_ans v []) h1 Q) := by
  refine (eq_run 1 (q := (34, [.ref 16, .int x1, .int x2], [.int x1], hp nS M)) (by with_unfolding_all rfl)).trans ?_
  exact eq_call2 (e := (.invokestatic 282, 3, 1, 85, 45)) (as := [.int x1]) (r := []) (n := 1) (m := 5) (by with_unfolding_all rfl) rfl (by decide) (by with_unfolding_all rfl) (by decide) (by with_unfolding_all rfl) ⟨fun z => absurd z (by decide), fun z => by simp at z⟩
set_option maxRecDepth 20000 in
theorem b_153_37 {d nS : Nat} {x1 x2 s0 : Int32} {M : am_M} {Q : Option Value → am_H → Prop} : am_Wp d 153 37 [.ref 16, .int x1, .int x2] [.int s0] (hp nS M) Q = Q (some (.int s0)) (hp nS M) := by
  exact eq_retI2 (e := (.ireturn, 1, 0, 0, 0)) (t := .int) (by with_unfolding_all rfl) rfl (by with_unfolding_all rfl) rfl
-- LarkExchange window(II)I (154, (16, None, None))
set_option maxRecDepth 20000 in
theorem b_154_0 {d nS : Nat} {x1 x2 : Int32} {M : am_M} {Q : Option Value → am_H → Prop} : am_Wp (d + 1) 154 0 [.ref 16, .int x1, .int x2, .retAddr 0] [] (hp nS M) Q = am_Wp d 125 0 [.int x1, .int 1, .int 14] [] (hp nS M) (fun v h1 => am_Wp (d + 1) 154 7 [.ref 16, .int x1, .int x2, .retAddr 0] (am_ans v []) h1 Q) := by
  refine (eq_run 3 (q := (4, [.ref 16, .int x1, .int x2, .retAddr 0], [.int 14, .int 1, .int x1], hp nS M)) (by with_unfolding_all rfl)).trans ?_
  exact eq_call2 (e := (.invokestatic 57, 3, 1, 125, 7)) (as := [.int x1, .int 1, .int 14]) (r := []) (n := 3) (m := 3) (by with_unfolding_all rfl) rfl (by decide) (by with_unfolding_all rfl) (by decide) (by with_unfolding_all rfl) ⟨fun z => absurd z (by decide), fun z => by simp at z⟩
set_option maxRecDepth 20000 in
theorem b_154_7 {d nS : Nat} {x1 x2 s0 : Int32} {M : am_M} {Q : Option Value → am_H → Prop} : am_Wp d 154 7 [.ref 16, .int x1, .int x2, .retAddr 0] [.int s0] (hp nS M) Q = if ¬ s0 = 0 then am_Wp d 154 19 [.ref 16, .int x1, .int x2, .retAddr 0] [] (hp nS M) Q else am_Wp d 154 10 [.ref 16, .int x1, .int x2, .retAddr 0] [] (hp nS M) Q := by
  exact eq_if_ne (by with_unfolding_all rfl)
set_option maxRecDepth 20000 in
theorem b_154_10 {d nS : Nat} {x1 x2 : Int32} {M : am_M} {Q : Option Value → am_H → Prop} : am_Wp (d + 1) 154 10 [.ref 16, .int x1, .int x2, .retAddr 0] [] (hp nS M) Q = am_Wp d 125 0 [.int x2, .int 0, .int 1] [] (hp nS M) (fun v h1 => am_Wp (d + 1) 154 16 [.ref 16, .int x1, .int x2, .retAddr 0] (am_ans v []) h1 Q) := by
  refine (eq_run 3 (q := (13, [.ref 16, .int x1, .int x2, .retAddr 0], [.int 1, .int 0, .int x2], hp nS M)) (by with_unfolding_all rfl)).trans ?_
  exact eq_call2 (e := (.invokestatic 57, 3, 1, 125, 7)) (as := [.int x2, .int 0, .int 1]) (r := []) (n := 3) (m := 3) (by with_unfolding_all rfl) rfl (by decide) (by with_unfolding_all rfl) (by decide) (by with_unfolding_all rfl) ⟨fun z => absurd z (by decide), fun z => by simp at z⟩
set_option maxRecDepth 20000 in
theorem b_154_16 {d nS : Nat} {x1 x2 s0 : Int32} {M : am_M} {Q : Option Value → am_H → Prop} : am_Wp d 154 16 [.ref 16, .int x1, .int x2, .retAddr 0] [.int s0] (hp nS M) Q = if s0 = 0 then am_Wp d 154 21 [.ref 16, .int x1, .int x2, .retAddr 0] [] (hp nS M) Q else am_Wp d 154 19 [.ref 16, .int x1, .int x2, .retAddr 0] [] (hp nS M) Q := by
  exact eq_if_eq (by with_unfolding_all rfl)
set_option maxRecDepth 20000 in
theorem b_154_19 {d nS : Nat} {x1 x2 : Int32} {M : am_M} {Q : Option Value → am_H → Prop} : am_Wp d 154 19 [.ref 16, .int x1, .int x2, .retAddr 0] [] (hp nS M) Q = Q (some (.int (-1))) (hp nS M) := by
  refine (eq_run 1 (q := (20, [.ref 16, .int x1, .int x2, .retAddr 0], [.int (-1)], hp nS M)) (by with_unfolding_all rfl)).trans ?_
  exact eq_retI2 (e := (.ireturn, 1, 0, 0, 0)) (t := .int) (by with_unfolding_all rfl) rfl (by with_unfolding_all rfl) rfl
set_option maxRecDepth 20000 in
theorem b_154_21 {d nS : Nat} {x1 x2 : Int32} {M : am_M} {Q : Option Value → am_H → Prop} : am_Wp (d + 1) 154 21 [.ref 16, .int x1, .int x2, .retAddr 0] [] (hp nS M) Q = am_Wp d 69 0 [.ref 45, .int x1, .retAddr 0, .retAddr 0, .retAddr 0, .retAddr 0] [] (hp nS M) (fun v h1 => am_Wp (d + 1) 154 32 [.ref 16, .int x1, .int x2, .retAddr 0] (am_ans v []) h1 Q) := by
  refine (eq_run 4 (q := (29, [.ref 16, .int x1, .int x2, .retAddr 0], [.int x1, .ref 45], hp nS M)) (by with_unfolding_all rfl)).trans ?_
  exact eq_call2 (e := (.invokevirtual 285, 3, 0, 69, 46)) (as := [.ref 45, .int x1]) (r := []) (n := 2) (m := 6) (by with_unfolding_all rfl) rfl (by decide) (by with_unfolding_all rfl) (by decide) (by with_unfolding_all rfl) ⟨fun _ => am_rec_ok (c := 9) (by with_unfolding_all rfl) (by decide +kernel), fun z => by simp at z⟩
set_option maxRecDepth 20000 in
theorem b_154_32 {d nS : Nat} {x1 x2 s0 : Int32} {M : am_M} {Q : Option Value → am_H → Prop} : am_Wp d 154 32 [.ref 16, .int x1, .int x2, .retAddr 0] [.int s0] (hp nS M) Q = if ¬ x2 = 1 then am_Wp d 154 40 [.ref 16, .int x1, .int x2, .int s0] [] (hp nS M) Q else am_Wp d 154 38 [.ref 16, .int x1, .int x2, .int s0] [] (hp nS M) Q := by
  refine (eq_run 3 (q := (35, [.ref 16, .int x1, .int x2, .int s0], [.int 1, .int x2], hp nS M)) (by with_unfolding_all rfl)).trans ?_
  exact eq_cmp_ne (by with_unfolding_all rfl)
set_option maxRecDepth 20000 in
theorem b_154_38 {d nS : Nat} {x1 x2 x3 : Int32} {M : am_M} {Q : Option Value → am_H → Prop} : am_Wp d 154 38 [.ref 16, .int x1, .int x2, .int x3] [] (hp nS M) Q = Q (some (.int x3)) (hp nS M) := by
  refine (eq_run 1 (q := (39, [.ref 16, .int x1, .int x2, .int x3], [.int x3], hp nS M)) (by with_unfolding_all rfl)).trans ?_
  exact eq_retI2 (e := (.ireturn, 1, 0, 0, 0)) (t := .int) (by with_unfolding_all rfl) rfl (by with_unfolding_all rfl) rfl
set_option maxRecDepth 20000 in
theorem b_154_40 {d nS : Nat} {x1 x2 x3 : Int32} {M : am_M} {Q : Option Value → am_H → Prop} : am_Wp d 154 40 [.ref 16, .int x1, .int x2, .int x3] [] (hp nS M) Q = if ¬ x3 = (-1) then am_Wp d 154 49 [.ref 16, .int x1, .int x2, .int x3] [] (hp nS M) Q else am_Wp d 154 45 [.ref 16, .int x1, .int x2, .int x3] [] (hp nS M) Q := by
  refine (eq_run 2 (q := (42, [.ref 16, .int x1, .int x2, .int x3], [.int (-1), .int x3], hp nS M)) (by with_unfolding_all rfl)).trans ?_
  exact eq_cmp_ne (by with_unfolding_all rfl)
set_option maxRecDepth 20000 in
theorem b_154_45 {d nS : Nat} {x1 x2 x3 : Int32} {M : am_M} {Q : Option Value → am_H → Prop} : am_Wp d 154 45 [.ref 16, .int x1, .int x2, .int x3] [] (hp nS M) Q = am_Wp d 154 61 [.ref 16, .int x1, .int x2, .int x3] [.int 0] (hp nS M) Q := by
  exact eq_run 2 (q := (61, [.ref 16, .int x1, .int x2, .int x3], [.int 0], hp nS M)) (by with_unfolding_all rfl)
set_option maxRecDepth 20000 in
theorem b_154_49 {d nS : Nat} {x1 x2 x3 : Int32} {M : am_M} {Q : Option Value → am_H → Prop} : am_Wp (d + 1) 154 49 [.ref 16, .int x1, .int x2, .int x3] [] (hp nS M) Q = am_Wp d 70 0 [.ref 45, .int x3, .int x1, .retAddr 0, .retAddr 0] [] (hp nS M) (fun v h1 => am_Wp (d + 1) 154 61 [.ref 16, .int x1, .int x2, .int x3] (am_ans v []) h1 Q) := by
  refine (eq_run 5 (q := (58, [.ref 16, .int x1, .int x2, .int x3], [.int x1, .int x3, .ref 45], hp nS M)) (by with_unfolding_all rfl)).trans ?_
  exact eq_call2 (e := (.invokevirtual 288, 3, 0, 70, 47)) (as := [.ref 45, .int x3, .int x1]) (r := []) (n := 3) (m := 5) (by with_unfolding_all rfl) rfl (by decide) (by with_unfolding_all rfl) (by decide) (by with_unfolding_all rfl) ⟨fun _ => am_rec_ok (c := 9) (by with_unfolding_all rfl) (by decide +kernel), fun z => by simp at z⟩
set_option maxRecDepth 20000 in
theorem b_154_61 {d nS : Nat} {x1 x2 x3 s0 : Int32} {M : am_M} {Q : Option Value → am_H → Prop} : am_Wp d 154 61 [.ref 16, .int x1, .int x2, .int x3] [.int s0] (hp nS M) Q = Q (some (.int s0)) (hp nS M) := by
  exact eq_retI2 (e := (.ireturn, 1, 0, 0, 0)) (t := .int) (by with_unfolding_all rfl) rfl (by with_unfolding_all rfl) rfl
-- LarkExchange row(I)I (155, (16, None))
set_option maxRecDepth 20000 in
theorem b_155_0 {d nS : Nat} {x1 : Int32} {M : am_M} {Q : Option Value → am_H → Prop} : am_Wp d 155 0 [.ref 16, .int x1] [] (hp nS M) Q = if x1 = 0 then am_Wp d 155 36 [.ref 16, .int x1] [] (hp nS M) Q else if x1 = 1 then am_Wp d 155 47 [.ref 16, .int x1] [] (hp nS M) Q else if x1 = 2 then am_Wp d 155 58 [.ref 16, .int x1] [] (hp nS M) Q else if x1 = 3 then am_Wp d 155 69 [.ref 16, .int x1] [] (hp nS M) Q else if x1 = 4 then am_Wp d 155 80 [.ref 16, .int x1] [] (hp nS M) Q else am_Wp d 155 91 [.ref 16, .int x1] [] (hp nS M) Q := by
  refine (eq_run 1 (q := (1, [.ref 16, .int x1], [.int x1], hp nS M)) (by with_unfolding_all rfl)).trans ?_
  by_cases c0 : x1 = 0
  · subst c0; rw [if_pos rfl]; exact eq_run 1 (q := (36, [.ref 16, .int 0], [], hp nS M)) (by with_unfolding_all rfl)
  rw [if_neg c0]
  by_cases c1 : x1 = 1
  · subst c1; rw [if_pos rfl]; exact eq_run 1 (q := (47, [.ref 16, .int 1], [], hp nS M)) (by with_unfolding_all rfl)
  rw [if_neg c1]
  by_cases c2 : x1 = 2
  · subst c2; rw [if_pos rfl]; exact eq_run 1 (q := (58, [.ref 16, .int 2], [], hp nS M)) (by with_unfolding_all rfl)
  rw [if_neg c2]
  by_cases c3 : x1 = 3
  · subst c3; rw [if_pos rfl]; exact eq_run 1 (q := (69, [.ref 16, .int 3], [], hp nS M)) (by with_unfolding_all rfl)
  rw [if_neg c3]
  by_cases c4 : x1 = 4
  · subst c4; rw [if_pos rfl]; exact eq_run 1 (q := (80, [.ref 16, .int 4], [], hp nS M)) (by with_unfolding_all rfl)
  rw [if_neg c4]
  exact eq_tsw_def (by with_unfolding_all rfl) (by
    have e0 : ¬ x1.toInt = 0 := fun z => c0 (Int32.toInt_inj.mp (z.trans (by decide)))
    have e1 : ¬ x1.toInt = 1 := fun z => c1 (Int32.toInt_inj.mp (z.trans (by decide)))
    have e2 : ¬ x1.toInt = 2 := fun z => c2 (Int32.toInt_inj.mp (z.trans (by decide)))
    have e3 : ¬ x1.toInt = 3 := fun z => c3 (Int32.toInt_inj.mp (z.trans (by decide)))
    have e4 : ¬ x1.toInt = 4 := fun z => c4 (Int32.toInt_inj.mp (z.trans (by decide)))
    omega)
set_option maxRecDepth 20000 in
theorem b_155_36 {d nS : Nat} {x1 : Int32} {M : am_M} {Q : Option Value → am_H → Prop} : am_Wp (d + 1) 155 36 [.ref 16, .int x1] [] (hp nS M) Q = am_Wp d 71 0 [.ref 45, .retAddr 0, .retAddr 0, .retAddr 0] [] (hp nS M) (fun v h1 => am_Wp (d + 1) 155 46 [.ref 16, .int x1] (am_ans v []) h1 Q) := by
  refine (eq_run 3 (q := (43, [.ref 16, .int x1], [.ref 45], hp nS M)) (by with_unfolding_all rfl)).trans ?_
  exact eq_call2 (e := (.invokevirtual 291, 3, 0, 71, 48)) (as := [.ref 45]) (r := []) (n := 1) (m := 4) (by with_unfolding_all rfl) rfl (by decide) (by with_unfolding_all rfl) (by decide) (by with_unfolding_all rfl) ⟨fun _ => am_rec_ok (c := 9) (by with_unfolding_all rfl) (by decide +kernel), fun z => by simp at z⟩
set_option maxRecDepth 20000 in
theorem b_155_46 {d nS : Nat} {x1 s0 : Int32} {M : am_M} {Q : Option Value → am_H → Prop} : am_Wp d 155 46 [.ref 16, .int x1] [.int s0] (hp nS M) Q = Q (some (.int s0)) (hp nS M) := by
  exact eq_retI2 (e := (.ireturn, 1, 0, 0, 0)) (t := .int) (by with_unfolding_all rfl) rfl (by with_unfolding_all rfl) rfl
set_option maxRecDepth 20000 in
theorem b_155_47 {d nS : Nat} {x1 : Int32} {M : am_M} {Q : Option Value → am_H → Prop} : am_Wp (d + 1) 155 47 [.ref 16, .int x1] [] (hp nS M) Q = am_Wp d 72 0 [.ref 45, .retAddr 0, .retAddr 0, .retAddr 0] [] (hp nS M) (fun v h1 => am_Wp (d + 1) 155 57 [.ref 16, .int x1] (am_ans v []) h1 Q) := by
  refine (eq_run 3 (q := (54, [.ref 16, .int x1], [.ref 45], hp nS M)) (by with_unfolding_all rfl)).trans ?_
  exact eq_call2 (e := (.invokevirtual 295, 3, 0, 72, 49)) (as := [.ref 45]) (r := []) (n := 1) (m := 4) (by with_unfolding_all rfl) rfl (by decide) (by with_unfolding_all rfl) (by decide) (by with_unfolding_all rfl) ⟨fun _ => am_rec_ok (c := 9) (by with_unfolding_all rfl) (by decide +kernel), fun z => by simp at z⟩
set_option maxRecDepth 20000 in
theorem b_155_57 {d nS : Nat} {x1 s0 : Int32} {M : am_M} {Q : Option Value → am_H → Prop} : am_Wp d 155 57 [.ref 16, .int x1] [.int s0] (hp nS M) Q = Q (some (.int s0)) (hp nS M) := by
  exact eq_retI2 (e := (.ireturn, 1, 0, 0, 0)) (t := .int) (by with_unfolding_all rfl) rfl (by with_unfolding_all rfl) rfl
set_option maxRecDepth 20000 in
theorem b_155_58 {d nS : Nat} {x1 : Int32} {M : am_M} {Q : Option Value → am_H → Prop} : am_Wp (d + 1) 155 58 [.ref 16, .int x1] [] (hp nS M) Q = am_Wp d 73 0 [.ref 45, .retAddr 0, .retAddr 0, .retAddr 0] [] (hp nS M) (fun v h1 => am_Wp (d + 1) 155 68 [.ref 16, .int x1] (am_ans v []) h1 Q) := by
  refine (eq_run 3 (q := (65, [.ref 16, .int x1], [.ref 45], hp nS M)) (by with_unfolding_all rfl)).trans ?_
  exact eq_call2 (e := (.invokevirtual 298, 3, 0, 73, 50)) (as := [.ref 45]) (r := []) (n := 1) (m := 4) (by with_unfolding_all rfl) rfl (by decide) (by with_unfolding_all rfl) (by decide) (by with_unfolding_all rfl) ⟨fun _ => am_rec_ok (c := 9) (by with_unfolding_all rfl) (by decide +kernel), fun z => by simp at z⟩
set_option maxRecDepth 20000 in
theorem b_155_68 {d nS : Nat} {x1 s0 : Int32} {M : am_M} {Q : Option Value → am_H → Prop} : am_Wp d 155 68 [.ref 16, .int x1] [.int s0] (hp nS M) Q = Q (some (.int s0)) (hp nS M) := by
  exact eq_retI2 (e := (.ireturn, 1, 0, 0, 0)) (t := .int) (by with_unfolding_all rfl) rfl (by with_unfolding_all rfl) rfl
set_option maxRecDepth 20000 in
theorem b_155_69 {d nS : Nat} {x1 : Int32} {M : am_M} {Q : Option Value → am_H → Prop} : am_Wp (d + 1) 155 69 [.ref 16, .int x1] [] (hp nS M) Q = am_Wp d 74 0 [.ref 45, .retAddr 0, .retAddr 0] [] (hp nS M) (fun v h1 => am_Wp (d + 1) 155 79 [.ref 16, .int x1] (am_ans v []) h1 Q) := by
  refine (eq_run 3 (q := (76, [.ref 16, .int x1], [.ref 45], hp nS M)) (by with_unfolding_all rfl)).trans ?_
  exact eq_call2 (e := (.invokevirtual 301, 3, 0, 74, 51)) (as := [.ref 45]) (r := []) (n := 1) (m := 3) (by with_unfolding_all rfl) rfl (by decide) (by with_unfolding_all rfl) (by decide) (by with_unfolding_all rfl) ⟨fun _ => am_rec_ok (c := 9) (by with_unfolding_all rfl) (by decide +kernel), fun z => by simp at z⟩
set_option maxRecDepth 20000 in
theorem b_155_79 {d nS : Nat} {x1 s0 : Int32} {M : am_M} {Q : Option Value → am_H → Prop} : am_Wp d 155 79 [.ref 16, .int x1] [.int s0] (hp nS M) Q = Q (some (.int s0)) (hp nS M) := by
  exact eq_retI2 (e := (.ireturn, 1, 0, 0, 0)) (t := .int) (by with_unfolding_all rfl) rfl (by with_unfolding_all rfl) rfl
set_option maxRecDepth 20000 in
theorem b_155_80 {d nS : Nat} {x1 : Int32} {M : am_M} {Q : Option Value → am_H → Prop} : am_Wp (d + 1) 155 80 [.ref 16, .int x1] [] (hp nS M) Q = am_Wp d 75 0 [.ref 45, .retAddr 0, .retAddr 0, .retAddr 0] [] (hp nS M) (fun v h1 => am_Wp (d + 1) 155 90 [.ref 16, .int x1] (am_ans v []) h1 Q) := by
  refine (eq_run 3 (q := (87, [.ref 16, .int x1], [.ref 45], hp nS M)) (by with_unfolding_all rfl)).trans ?_
  exact eq_call2 (e := (.invokevirtual 304, 3, 0, 75, 52)) (as := [.ref 45]) (r := []) (n := 1) (m := 4) (by with_unfolding_all rfl) rfl (by decide) (by with_unfolding_all rfl) (by decide) (by with_unfolding_all rfl) ⟨fun _ => am_rec_ok (c := 9) (by with_unfolding_all rfl) (by decide +kernel), fun z => by simp at z⟩
set_option maxRecDepth 20000 in
theorem b_155_90 {d nS : Nat} {x1 s0 : Int32} {M : am_M} {Q : Option Value → am_H → Prop} : am_Wp d 155 90 [.ref 16, .int x1] [.int s0] (hp nS M) Q = Q (some (.int s0)) (hp nS M) := by
  exact eq_retI2 (e := (.ireturn, 1, 0, 0, 0)) (t := .int) (by with_unfolding_all rfl) rfl (by with_unfolding_all rfl) rfl
set_option maxRecDepth 20000 in
theorem b_155_91 {d nS : Nat} {x1 : Int32} {M : am_M} {Q : Option Value → am_H → Prop} : am_Wp d 155 91 [.ref 16, .int x1] [] (hp nS M) Q = Q (some (.int (-1))) (hp nS M) := by
  refine (eq_run 1 (q := (92, [.ref 16, .int x1], [.int (-1)], hp nS M)) (by with_unfolding_all rfl)).trans ?_
  exact eq_retI2 (e := (.ireturn, 1, 0, 0, 0)) (t := .int) (by with_unfolding_all rfl) rfl (by with_unfolding_all rfl) rfl
-- LarkExchange fifths(II)I (156, (16, None, None))
set_option maxRecDepth 20000 in
theorem b_156_0 {d nS : Nat} {x1 x2 : Int32} {M : am_M} {Q : Option Value → am_H → Prop} : am_Wp (d + 1) 156 0 [.ref 16, .int x1, .int x2] [] (hp nS M) Q = am_Wp d 125 0 [.int x1, .int (-12), .int 12] [] (hp nS M) (fun v h1 => am_Wp (d + 1) 156 8 [.ref 16, .int x1, .int x2] (am_ans v []) h1 Q) := by
  refine (eq_run 3 (q := (5, [.ref 16, .int x1, .int x2], [.int 12, .int (-12), .int x1], hp nS M)) (by with_unfolding_all rfl)).trans ?_
  exact eq_call2 (e := (.invokestatic 57, 3, 1, 125, 7)) (as := [.int x1, .int (-12), .int 12]) (r := []) (n := 3) (m := 3) (by with_unfolding_all rfl) rfl (by decide) (by with_unfolding_all rfl) (by decide) (by with_unfolding_all rfl) ⟨fun z => absurd z (by decide), fun z => by simp at z⟩
set_option maxRecDepth 20000 in
theorem b_156_8 {d nS : Nat} {x1 x2 s0 : Int32} {M : am_M} {Q : Option Value → am_H → Prop} : am_Wp d 156 8 [.ref 16, .int x1, .int x2] [.int s0] (hp nS M) Q = if ¬ s0 = 0 then am_Wp d 156 20 [.ref 16, .int x1, .int x2] [] (hp nS M) Q else am_Wp d 156 11 [.ref 16, .int x1, .int x2] [] (hp nS M) Q := by
  exact eq_if_ne (by with_unfolding_all rfl)
set_option maxRecDepth 20000 in
theorem b_156_11 {d nS : Nat} {x1 x2 : Int32} {M : am_M} {Q : Option Value → am_H → Prop} : am_Wp (d + 1) 156 11 [.ref 16, .int x1, .int x2] [] (hp nS M) Q = am_Wp d 125 0 [.int x2, .int 0, .int 1] [] (hp nS M) (fun v h1 => am_Wp (d + 1) 156 17 [.ref 16, .int x1, .int x2] (am_ans v []) h1 Q) := by
  refine (eq_run 3 (q := (14, [.ref 16, .int x1, .int x2], [.int 1, .int 0, .int x2], hp nS M)) (by with_unfolding_all rfl)).trans ?_
  exact eq_call2 (e := (.invokestatic 57, 3, 1, 125, 7)) (as := [.int x2, .int 0, .int 1]) (r := []) (n := 3) (m := 3) (by with_unfolding_all rfl) rfl (by decide) (by with_unfolding_all rfl) (by decide) (by with_unfolding_all rfl) ⟨fun z => absurd z (by decide), fun z => by simp at z⟩
set_option maxRecDepth 20000 in
theorem b_156_17 {d nS : Nat} {x1 x2 s0 : Int32} {M : am_M} {Q : Option Value → am_H → Prop} : am_Wp d 156 17 [.ref 16, .int x1, .int x2] [.int s0] (hp nS M) Q = if s0 = 0 then am_Wp d 156 22 [.ref 16, .int x1, .int x2] [] (hp nS M) Q else am_Wp d 156 20 [.ref 16, .int x1, .int x2] [] (hp nS M) Q := by
  exact eq_if_eq (by with_unfolding_all rfl)
set_option maxRecDepth 20000 in
theorem b_156_20 {d nS : Nat} {x1 x2 : Int32} {M : am_M} {Q : Option Value → am_H → Prop} : am_Wp d 156 20 [.ref 16, .int x1, .int x2] [] (hp nS M) Q = Q (some (.int (-1))) (hp nS M) := by
  refine (eq_run 1 (q := (21, [.ref 16, .int x1, .int x2], [.int (-1)], hp nS M)) (by with_unfolding_all rfl)).trans ?_
  exact eq_retI2 (e := (.ireturn, 1, 0, 0, 0)) (t := .int) (by with_unfolding_all rfl) rfl (by with_unfolding_all rfl) rfl
set_option maxRecDepth 20000 in
theorem b_156_22 {d nS : Nat} {x1 x2 : Int32} {M : am_M} {Q : Option Value → am_H → Prop} : am_Wp (d + 1) 156 22 [.ref 16, .int x1, .int x2] [] (hp nS M) Q = am_Wp d 86 0 [.int x1, .int x2, .retAddr 0, .retAddr 0, .retAddr 0] [] (hp nS M) (fun v h1 => am_Wp (d + 1) 156 27 [.ref 16, .int x1, .int x2] (am_ans v []) h1 Q) := by
  refine (eq_run 2 (q := (24, [.ref 16, .int x1, .int x2], [.int x2, .int x1], hp nS M)) (by with_unfolding_all rfl)).trans ?_
  exact eq_call2 (e := (.invokestatic 307, 3, 1, 86, 53)) (as := [.int x1, .int x2]) (r := []) (n := 2) (m := 5) (by with_unfolding_all rfl) rfl (by decide) (by with_unfolding_all rfl) (by decide) (by with_unfolding_all rfl) ⟨fun z => absurd z (by decide), fun z => by simp at z⟩
set_option maxRecDepth 20000 in
theorem b_156_27 {d nS : Nat} {x1 x2 s0 : Int32} {M : am_M} {Q : Option Value → am_H → Prop} : am_Wp d 156 27 [.ref 16, .int x1, .int x2] [.int s0] (hp nS M) Q = Q (some (.int s0)) (hp nS M) := by
  exact eq_retI2 (e := (.ireturn, 1, 0, 0, 0)) (t := .int) (by with_unfolding_all rfl) rfl (by with_unfolding_all rfl) rfl
-- LarkExchange way(II)I (157, (16, None, None))
set_option maxRecDepth 20000 in
theorem b_157_0 {d nS : Nat} {x1 x2 : Int32} {M : am_M} {Q : Option Value → am_H → Prop} : am_Wp (d + 1) 157 0 [.ref 16, .int x1, .int x2] [] (hp nS M) Q = am_Wp d 12 0 [.ref 50, .int x1, .int x2] [] (hp nS M) (fun v h1 => am_Wp (d + 1) 157 12 [.ref 16, .int x1, .int x2] (am_ans v []) h1 Q) := by
  refine (eq_run 5 (q := (9, [.ref 16, .int x1, .int x2], [.int x2, .int x1, .ref 50], hp nS M)) (by with_unfolding_all rfl)).trans ?_
  exact eq_call2 (e := (.invokevirtual 314, 3, 0, 12, 54)) (as := [.ref 50, .int x1, .int x2]) (r := []) (n := 3) (m := 3) (by with_unfolding_all rfl) rfl (by decide) (by with_unfolding_all rfl) (by decide) (by with_unfolding_all rfl) ⟨fun _ => am_rec_ok (c := 4) (by with_unfolding_all rfl) (by decide +kernel), fun z => by simp at z⟩
set_option maxRecDepth 20000 in
theorem b_157_12 {d nS : Nat} {x1 x2 s0 : Int32} {M : am_M} {Q : Option Value → am_H → Prop} : am_Wp d 157 12 [.ref 16, .int x1, .int x2] [.int s0] (hp nS M) Q = Q (some (.int s0)) (hp nS M) := by
  exact eq_retI2 (e := (.ireturn, 1, 0, 0, 0)) (t := .int) (by with_unfolding_all rfl) rfl (by with_unfolding_all rfl) rfl
-- LarkExchange caught(II)I (158, (16, None, None))
set_option maxRecDepth 20000 in
theorem b_158_0 {d nS : Nat} {x1 x2 : Int32} {M : am_M} {Q : Option Value → am_H → Prop} : am_Wp (d + 1) 158 0 [.ref 16, .int x1, .int x2] [] (hp nS M) Q = am_Wp d 125 0 [.int x1, .int 0, .int 7] [] (hp nS M) (fun v h1 => am_Wp (d + 1) 158 7 [.ref 16, .int x1, .int x2] (am_ans v []) h1 Q) := by
  refine (eq_run 3 (q := (4, [.ref 16, .int x1, .int x2], [.int 7, .int 0, .int x1], hp nS M)) (by with_unfolding_all rfl)).trans ?_
  exact eq_call2 (e := (.invokestatic 57, 3, 1, 125, 7)) (as := [.int x1, .int 0, .int 7]) (r := []) (n := 3) (m := 3) (by with_unfolding_all rfl) rfl (by decide) (by with_unfolding_all rfl) (by decide) (by with_unfolding_all rfl) ⟨fun z => absurd z (by decide), fun z => by simp at z⟩
set_option maxRecDepth 20000 in
theorem b_158_7 {d nS : Nat} {x1 x2 s0 : Int32} {M : am_M} {Q : Option Value → am_H → Prop} : am_Wp d 158 7 [.ref 16, .int x1, .int x2] [.int s0] (hp nS M) Q = if ¬ s0 = 0 then am_Wp d 158 20 [.ref 16, .int x1, .int x2] [] (hp nS M) Q else am_Wp d 158 10 [.ref 16, .int x1, .int x2] [] (hp nS M) Q := by
  exact eq_if_ne (by with_unfolding_all rfl)
set_option maxRecDepth 20000 in
theorem b_158_10 {d nS : Nat} {x1 x2 : Int32} {M : am_M} {Q : Option Value → am_H → Prop} : am_Wp (d + 1) 158 10 [.ref 16, .int x1, .int x2] [] (hp nS M) Q = am_Wp d 125 0 [.int x2, .int 0, .int 7] [] (hp nS M) (fun v h1 => am_Wp (d + 1) 158 17 [.ref 16, .int x1, .int x2] (am_ans v []) h1 Q) := by
  refine (eq_run 3 (q := (14, [.ref 16, .int x1, .int x2], [.int 7, .int 0, .int x2], hp nS M)) (by with_unfolding_all rfl)).trans ?_
  exact eq_call2 (e := (.invokestatic 57, 3, 1, 125, 7)) (as := [.int x2, .int 0, .int 7]) (r := []) (n := 3) (m := 3) (by with_unfolding_all rfl) rfl (by decide) (by with_unfolding_all rfl) (by decide) (by with_unfolding_all rfl) ⟨fun z => absurd z (by decide), fun z => by simp at z⟩
set_option maxRecDepth 20000 in
theorem b_158_17 {d nS : Nat} {x1 x2 s0 : Int32} {M : am_M} {Q : Option Value → am_H → Prop} : am_Wp d 158 17 [.ref 16, .int x1, .int x2] [.int s0] (hp nS M) Q = if s0 = 0 then am_Wp d 158 22 [.ref 16, .int x1, .int x2] [] (hp nS M) Q else am_Wp d 158 20 [.ref 16, .int x1, .int x2] [] (hp nS M) Q := by
  exact eq_if_eq (by with_unfolding_all rfl)
set_option maxRecDepth 20000 in
theorem b_158_20 {d nS : Nat} {x1 x2 : Int32} {M : am_M} {Q : Option Value → am_H → Prop} : am_Wp d 158 20 [.ref 16, .int x1, .int x2] [] (hp nS M) Q = Q (some (.int (-1))) (hp nS M) := by
  refine (eq_run 1 (q := (21, [.ref 16, .int x1, .int x2], [.int (-1)], hp nS M)) (by with_unfolding_all rfl)).trans ?_
  exact eq_retI2 (e := (.ireturn, 1, 0, 0, 0)) (t := .int) (by with_unfolding_all rfl) rfl (by with_unfolding_all rfl) rfl
set_option maxRecDepth 20000 in
theorem b_158_22 {d nS : Nat} {x1 x2 : Int32} {M : am_M} {Q : Option Value → am_H → Prop} : am_Wp (d + 1) 158 22 [.ref 16, .int x1, .int x2] [] (hp nS M) Q = am_Wp d 13 0 [.ref 50, .int x1, .int x2, .retAddr 0, .retAddr 0] [] (hp nS M) (fun v h1 => am_Wp (d + 1) 158 34 [.ref 16, .int x1, .int x2] (am_ans v []) h1 Q) := by
  refine (eq_run 5 (q := (31, [.ref 16, .int x1, .int x2], [.int x2, .int x1, .ref 50], hp nS M)) (by with_unfolding_all rfl)).trans ?_
  exact eq_call2 (e := (.invokevirtual 318, 3, 0, 13, 55)) (as := [.ref 50, .int x1, .int x2]) (r := []) (n := 3) (m := 5) (by with_unfolding_all rfl) rfl (by decide) (by with_unfolding_all rfl) (by decide) (by with_unfolding_all rfl) ⟨fun _ => am_rec_ok (c := 4) (by with_unfolding_all rfl) (by decide +kernel), fun z => by simp at z⟩
set_option maxRecDepth 20000 in
theorem b_158_34 {d nS : Nat} {x1 x2 s0 : Int32} {M : am_M} {Q : Option Value → am_H → Prop} : am_Wp d 158 34 [.ref 16, .int x1, .int x2] [.int s0] (hp nS M) Q = Q (some (.int s0)) (hp nS M) := by
  exact eq_retI2 (e := (.ireturn, 1, 0, 0, 0)) (t := .int) (by with_unfolding_all rfl) rfl (by with_unfolding_all rfl) rfl
