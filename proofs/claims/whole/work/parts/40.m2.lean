-- waits(I)V
set_option maxRecDepth 20000 in
theorem b_212_0 {d nS : Nat} {x1 : Int32} {M : am_M} {Q : Option Value → am_H → Prop} (h1 : vp_in (M 205 32) 40) : am_Wp d 212 0 [.ref 205, .int x1] [] (hp nS M) Q = Q none (hp nS (am_up (am_up M 221 (M 205 32).toNatClampNeg x1) 205 32 (((am_up M 221 (M 205 32).toNatClampNeg x1) 205 32) + 1))) := by
  refine (eq_run 5 (q := (9, [.ref 205, .int x1], [.int x1, .int (M 205 32), .ref 221], hp nS M)) (by with_unfolding_all rfl)).trans ?_
  refine (eq_ast (e := (.iastore, 1, 0, 0, 0)) (by with_unfolding_all rfl) rfl (n := 40) (by with_unfolding_all rfl) (by decide) h1).trans ?_
  refine (eq_run 6 (q := (20, [.ref 205, .int x1], [], hp nS (am_up (am_up M 221 (M 205 32).toNatClampNeg x1) 205 32 (((am_up M 221 (M 205 32).toNatClampNeg x1) 205 32) + 1)))) (by with_unfolding_all rfl)).trans ?_
  exact eq_retV2 (e := (.return_, 1, 0, 0, 0)) (by with_unfolding_all rfl) rfl (by with_unfolding_all rfl)
-- readCompared()I
set_option maxRecDepth 20000 in
theorem b_213_0 {d nS : Nat} {M : am_M} {Q : Option Value → am_H → Prop} : am_Wp (d + 1) 213 0 [.ref 205, .retAddr 0] [] (hp nS M) Q = am_Wp d 206 0 [.ref 205, .retAddr 0] [] (hp nS M) (fun v h1 => am_Wp (d + 1) 213 4 [.ref 205, .retAddr 0] (am_ans v []) h1 Q) := by
  refine (eq_run 1 (q := (1, [.ref 205, .retAddr 0], [.ref 205], hp nS M)) (by with_unfolding_all rfl)).trans ?_
  exact eq_call2 (e := (.invokevirtual 231, 3, 0, 206, 294)) (as := [.ref 205]) (r := []) (n := 1) (m := 2) (by with_unfolding_all rfl) rfl (by decide) (by with_unfolding_all rfl) (by decide) (by with_unfolding_all rfl) ⟨fun _ => am_rec_ok (c := 14) (by with_unfolding_all rfl) (by decide +kernel), fun z => by simp at z⟩
set_option maxRecDepth 20000 in
theorem b_213_4 {d nS : Nat} {s0 : Int32} {M : am_M} {Q : Option Value → am_H → Prop} : am_Wp d 213 4 [.ref 205, .retAddr 0] [.int s0] (hp nS M) Q = if ¬ s0 = (-1) then am_Wp d 213 10 [.ref 205, .retAddr 0] [] (hp nS M) Q else am_Wp d 213 8 [.ref 205, .retAddr 0] [] (hp nS M) Q := by
  refine (eq_run 1 (q := (5, [.ref 205, .retAddr 0], [.int (-1), .int s0], hp nS M)) (by with_unfolding_all rfl)).trans ?_
  exact eq_cmp_ne (by with_unfolding_all rfl)
set_option maxRecDepth 20000 in
theorem b_213_8 {d nS : Nat} {M : am_M} {Q : Option Value → am_H → Prop} : am_Wp d 213 8 [.ref 205, .retAddr 0] [] (hp nS M) Q = Q (some (.int (-1))) (hp nS M) := by
  refine (eq_run 1 (q := (9, [.ref 205, .retAddr 0], [.int (-1)], hp nS M)) (by with_unfolding_all rfl)).trans ?_
  exact eq_retI2 (e := (.ireturn, 1, 0, 0, 0)) (t := .int) (by with_unfolding_all rfl) rfl (by with_unfolding_all rfl) rfl
set_option maxRecDepth 20000 in
theorem b_213_10 {d nS : Nat} {M : am_M} {Q : Option Value → am_H → Prop} : am_Wp (d + 1) 213 10 [.ref 205, .retAddr 0] [] (hp nS M) Q = am_Wp d 199 0 [.ref 205, .int 60] [] (hp nS M) (fun v h1 => am_Wp (d + 1) 213 16 [.ref 205, .retAddr 0] (am_ans v []) h1 Q) := by
  refine (eq_run 2 (q := (13, [.ref 205, .retAddr 0], [.int 60, .ref 205], hp nS M)) (by with_unfolding_all rfl)).trans ?_
  exact eq_call2 (e := (.invokevirtual 225, 3, 0, 199, 292)) (as := [.ref 205, .int 60]) (r := []) (n := 2) (m := 2) (by with_unfolding_all rfl) rfl (by decide) (by with_unfolding_all rfl) (by decide) (by with_unfolding_all rfl) ⟨fun _ => am_rec_ok (c := 14) (by with_unfolding_all rfl) (by decide +kernel), fun z => by simp at z⟩
set_option maxRecDepth 20000 in
theorem b_213_16 {d nS : Nat} {s0 : Int32} {M : am_M} {Q : Option Value → am_H → Prop} : am_Wp d 213 16 [.ref 205, .retAddr 0] [.int s0] (hp nS M) Q = if ¬ s0 = 0 then am_Wp d 213 43 [.ref 205, .retAddr 0] [] (hp nS M) Q else am_Wp d 213 19 [.ref 205, .retAddr 0] [] (hp nS M) Q := by
  exact eq_if_ne (by with_unfolding_all rfl)
set_option maxRecDepth 20000 in
theorem b_213_19 {d nS : Nat} {M : am_M} {Q : Option Value → am_H → Prop} : am_Wp (d + 1) 213 19 [.ref 205, .retAddr 0] [] (hp nS M) Q = am_Wp d 199 0 [.ref 205, .int 61] [] (hp nS M) (fun v h1 => am_Wp (d + 1) 213 25 [.ref 205, .retAddr 0] (am_ans v []) h1 Q) := by
  refine (eq_run 2 (q := (22, [.ref 205, .retAddr 0], [.int 61, .ref 205], hp nS M)) (by with_unfolding_all rfl)).trans ?_
  exact eq_call2 (e := (.invokevirtual 225, 3, 0, 199, 292)) (as := [.ref 205, .int 61]) (r := []) (n := 2) (m := 2) (by with_unfolding_all rfl) rfl (by decide) (by with_unfolding_all rfl) (by decide) (by with_unfolding_all rfl) ⟨fun _ => am_rec_ok (c := 14) (by with_unfolding_all rfl) (by decide +kernel), fun z => by simp at z⟩
set_option maxRecDepth 20000 in
theorem b_213_25 {d nS : Nat} {s0 : Int32} {M : am_M} {Q : Option Value → am_H → Prop} : am_Wp d 213 25 [.ref 205, .retAddr 0] [.int s0] (hp nS M) Q = if ¬ s0 = 0 then am_Wp d 213 43 [.ref 205, .retAddr 0] [] (hp nS M) Q else am_Wp d 213 28 [.ref 205, .retAddr 0] [] (hp nS M) Q := by
  exact eq_if_ne (by with_unfolding_all rfl)
set_option maxRecDepth 20000 in
theorem b_213_28 {d nS : Nat} {M : am_M} {Q : Option Value → am_H → Prop} : am_Wp (d + 1) 213 28 [.ref 205, .retAddr 0] [] (hp nS M) Q = am_Wp d 199 0 [.ref 205, .int 62] [] (hp nS M) (fun v h1 => am_Wp (d + 1) 213 34 [.ref 205, .retAddr 0] (am_ans v []) h1 Q) := by
  refine (eq_run 2 (q := (31, [.ref 205, .retAddr 0], [.int 62, .ref 205], hp nS M)) (by with_unfolding_all rfl)).trans ?_
  exact eq_call2 (e := (.invokevirtual 225, 3, 0, 199, 292)) (as := [.ref 205, .int 62]) (r := []) (n := 2) (m := 2) (by with_unfolding_all rfl) rfl (by decide) (by with_unfolding_all rfl) (by decide) (by with_unfolding_all rfl) ⟨fun _ => am_rec_ok (c := 14) (by with_unfolding_all rfl) (by decide +kernel), fun z => by simp at z⟩
set_option maxRecDepth 20000 in
theorem b_213_34 {d nS : Nat} {s0 : Int32} {M : am_M} {Q : Option Value → am_H → Prop} : am_Wp d 213 34 [.ref 205, .retAddr 0] [.int s0] (hp nS M) Q = if ¬ s0 = 0 then am_Wp d 213 43 [.ref 205, .retAddr 0] [] (hp nS M) Q else am_Wp d 213 37 [.ref 205, .retAddr 0] [] (hp nS M) Q := by
  exact eq_if_ne (by with_unfolding_all rfl)
set_option maxRecDepth 20000 in
theorem b_213_37 {d nS : Nat} {M : am_M} {Q : Option Value → am_H → Prop} : am_Wp (d + 1) 213 37 [.ref 205, .retAddr 0] [] (hp nS M) Q = am_Wp d 193 0 [.ref 205, .int 1] [] (hp nS M) (fun v h1 => am_Wp (d + 1) 213 42 [.ref 205, .retAddr 0] (am_ans v []) h1 Q) := by
  refine (eq_run 2 (q := (39, [.ref 205, .retAddr 0], [.int 1, .ref 205], hp nS M)) (by with_unfolding_all rfl)).trans ?_
  exact eq_call2 (e := (.invokevirtual 211, 3, 0, 193, 288)) (as := [.ref 205, .int 1]) (r := []) (n := 2) (m := 2) (by with_unfolding_all rfl) rfl (by decide) (by with_unfolding_all rfl) (by decide) (by with_unfolding_all rfl) ⟨fun _ => am_rec_ok (c := 14) (by with_unfolding_all rfl) (by decide +kernel), fun z => by simp at z⟩
set_option maxRecDepth 20000 in
theorem b_213_42 {d nS : Nat} {s0 : Int32} {M : am_M} {Q : Option Value → am_H → Prop} : am_Wp d 213 42 [.ref 205, .retAddr 0] [.int s0] (hp nS M) Q = Q (some (.int s0)) (hp nS M) := by
  exact eq_retI2 (e := (.ireturn, 1, 0, 0, 0)) (t := .int) (by with_unfolding_all rfl) rfl (by with_unfolding_all rfl) rfl
set_option maxRecDepth 20000 in
theorem b_213_43 {d nS : Nat} {M : am_M} {Q : Option Value → am_H → Prop} : am_Wp d 213 43 [.ref 205, .retAddr 0] [] (hp nS M) Q = if ¬ (M 205 19) = 60 then am_Wp d 213 57 [.ref 205, .retAddr 0] [] (hp nS M) Q else am_Wp d 213 52 [.ref 205, .retAddr 0] [] (hp nS M) Q := by
  refine (eq_run 3 (q := (49, [.ref 205, .retAddr 0], [.int 60, .int (M 205 19)], hp nS M)) (by with_unfolding_all rfl)).trans ?_
  exact eq_cmp_ne (by with_unfolding_all rfl)
set_option maxRecDepth 20000 in
theorem b_213_52 {d nS : Nat} {M : am_M} {Q : Option Value → am_H → Prop} : am_Wp d 213 52 [.ref 205, .retAddr 0] [] (hp nS M) Q = am_Wp d 213 73 [.ref 205, .retAddr 0] [.int 6] (hp nS M) Q := by
  exact eq_run 2 (q := (73, [.ref 205, .retAddr 0], [.int 6], hp nS M)) (by with_unfolding_all rfl)
set_option maxRecDepth 20000 in
theorem b_213_57 {d nS : Nat} {M : am_M} {Q : Option Value → am_H → Prop} : am_Wp d 213 57 [.ref 205, .retAddr 0] [] (hp nS M) Q = if ¬ (M 205 19) = 61 then am_Wp d 213 71 [.ref 205, .retAddr 0] [] (hp nS M) Q else am_Wp d 213 66 [.ref 205, .retAddr 0] [] (hp nS M) Q := by
  refine (eq_run 3 (q := (63, [.ref 205, .retAddr 0], [.int 61, .int (M 205 19)], hp nS M)) (by with_unfolding_all rfl)).trans ?_
  exact eq_cmp_ne (by with_unfolding_all rfl)
set_option maxRecDepth 20000 in
theorem b_213_66 {d nS : Nat} {M : am_M} {Q : Option Value → am_H → Prop} : am_Wp d 213 66 [.ref 205, .retAddr 0] [] (hp nS M) Q = am_Wp d 213 73 [.ref 205, .retAddr 0] [.int 7] (hp nS M) Q := by
  exact eq_run 2 (q := (73, [.ref 205, .retAddr 0], [.int 7], hp nS M)) (by with_unfolding_all rfl)
set_option maxRecDepth 20000 in
theorem b_213_71 {d nS : Nat} {M : am_M} {Q : Option Value → am_H → Prop} : am_Wp d 213 71 [.ref 205, .retAddr 0] [] (hp nS M) Q = am_Wp d 213 73 [.ref 205, .retAddr 0] [.int 8] (hp nS M) Q := by
  exact eq_run 1 (q := (73, [.ref 205, .retAddr 0], [.int 8], hp nS M)) (by with_unfolding_all rfl)
set_option maxRecDepth 20000 in
theorem b_213_73 {d nS : Nat} {s0 : Int32} {M : am_M} {Q : Option Value → am_H → Prop} : am_Wp (d + 1) 213 73 [.ref 205, .retAddr 0] [.int s0] (hp nS M) Q = am_Wp d 185 0 [.ref 205, .retAddr 0] [] (hp nS M) (fun v h1 => am_Wp (d + 1) 213 78 [.ref 205, .int s0] (am_ans v []) h1 Q) := by
  refine (eq_run 2 (q := (75, [.ref 205, .int s0], [.ref 205], hp nS M)) (by with_unfolding_all rfl)).trans ?_
  exact eq_call2 (e := (.invokevirtual 218, 3, 0, 185, 290)) (as := [.ref 205]) (r := []) (n := 1) (m := 2) (by with_unfolding_all rfl) rfl (by decide) (by with_unfolding_all rfl) (by decide) (by with_unfolding_all rfl) ⟨fun _ => am_rec_ok (c := 14) (by with_unfolding_all rfl) (by decide +kernel), fun z => by simp at z⟩
set_option maxRecDepth 20000 in
theorem b_213_78 {d nS : Nat} {x1 : Int32} {M : am_M} {Q : Option Value → am_H → Prop} : am_Wp (d + 1) 213 78 [.ref 205, .int x1] [] (hp nS M) Q = am_Wp d 206 0 [.ref 205, .retAddr 0] [] (hp nS M) (fun v h1 => am_Wp (d + 1) 213 82 [.ref 205, .int x1] (am_ans v []) h1 Q) := by
  refine (eq_run 1 (q := (79, [.ref 205, .int x1], [.ref 205], hp nS M)) (by with_unfolding_all rfl)).trans ?_
  exact eq_call2 (e := (.invokevirtual 231, 3, 0, 206, 294)) (as := [.ref 205]) (r := []) (n := 1) (m := 2) (by with_unfolding_all rfl) rfl (by decide) (by with_unfolding_all rfl) (by decide) (by with_unfolding_all rfl) ⟨fun _ => am_rec_ok (c := 14) (by with_unfolding_all rfl) (by decide +kernel), fun z => by simp at z⟩
set_option maxRecDepth 20000 in
theorem b_213_82 {d nS : Nat} {x1 s0 : Int32} {M : am_M} {Q : Option Value → am_H → Prop} : am_Wp d 213 82 [.ref 205, .int x1] [.int s0] (hp nS M) Q = if ¬ s0 = (-1) then am_Wp d 213 88 [.ref 205, .int x1] [] (hp nS M) Q else am_Wp d 213 86 [.ref 205, .int x1] [] (hp nS M) Q := by
  refine (eq_run 1 (q := (83, [.ref 205, .int x1], [.int (-1), .int s0], hp nS M)) (by with_unfolding_all rfl)).trans ?_
  exact eq_cmp_ne (by with_unfolding_all rfl)
set_option maxRecDepth 20000 in
theorem b_213_86 {d nS : Nat} {x1 : Int32} {M : am_M} {Q : Option Value → am_H → Prop} : am_Wp d 213 86 [.ref 205, .int x1] [] (hp nS M) Q = Q (some (.int (-1))) (hp nS M) := by
  refine (eq_run 1 (q := (87, [.ref 205, .int x1], [.int (-1)], hp nS M)) (by with_unfolding_all rfl)).trans ?_
  exact eq_retI2 (e := (.ireturn, 1, 0, 0, 0)) (t := .int) (by with_unfolding_all rfl) rfl (by with_unfolding_all rfl) rfl
set_option maxRecDepth 20000 in
theorem b_213_88 {d nS : Nat} {x1 : Int32} {M : am_M} {Q : Option Value → am_H → Prop} : am_Wp (d + 1) 213 88 [.ref 205, .int x1] [] (hp nS M) Q = am_Wp d 210 0 [.ref 205, .int x1, .int 0] [] (hp nS M) (fun v h1 => am_Wp (d + 1) 213 94 [.ref 205, .int x1] (am_ans v []) h1 Q) := by
  refine (eq_run 3 (q := (91, [.ref 205, .int x1], [.int 0, .int x1, .ref 205], hp nS M)) (by with_unfolding_all rfl)).trans ?_
  exact eq_call2 (e := (.invokevirtual 214, 3, 0, 210, 289)) (as := [.ref 205, .int x1, .int 0]) (r := []) (n := 3) (m := 3) (by with_unfolding_all rfl) rfl (by decide) (by with_unfolding_all rfl) (by decide) (by with_unfolding_all rfl) ⟨fun _ => am_rec_ok (c := 14) (by with_unfolding_all rfl) (by decide +kernel), fun z => by simp at z⟩
set_option maxRecDepth 20000 in
theorem b_213_94 {d nS : Nat} {x1 : Int32} {M : am_M} {Q : Option Value → am_H → Prop} : am_Wp d 213 94 [.ref 205, .int x1] [] (hp nS M) Q = Q (some (.int 0)) (hp nS M) := by
  refine (eq_run 1 (q := (95, [.ref 205, .int x1], [.int 0], hp nS M)) (by with_unfolding_all rfl)).trans ?_
  exact eq_retI2 (e := (.ireturn, 1, 0, 0, 0)) (t := .int) (by with_unfolding_all rfl) rfl (by with_unfolding_all rfl) rfl
-- settles(I)V
set_option maxRecDepth 20000 in
theorem b_214_0 {d nS : Nat} {x1 : Int32} {M : am_M} {Q : Option Value → am_H → Prop} : am_Wp d 214 0 [.ref 205, .int x1] [] (hp nS M) Q = if (M 205 32) ≤ 0 then am_Wp d 214 57 [.ref 205, .int x1] [] (hp nS M) Q else am_Wp d 214 7 [.ref 205, .int x1] [] (hp nS M) Q := by
  refine (eq_run 2 (q := (4, [.ref 205, .int x1], [.int (M 205 32)], hp nS M)) (by with_unfolding_all rfl)).trans ?_
  exact eq_if_le (by with_unfolding_all rfl)
set_option maxRecDepth 20000 in
theorem b_214_7 {d nS : Nat} {x1 : Int32} {M : am_M} {Q : Option Value → am_H → Prop} (h1 : vp_in ((M 205 32) - 1) 40) : am_Wp d 214 7 [.ref 205, .int x1] [] (hp nS M) Q = if ¬ (M 221 ((M 205 32) - 1).toNatClampNeg) = x1 then am_Wp d 214 57 [.ref 205, .int x1] [] (hp nS M) Q else am_Wp d 214 22 [.ref 205, .int x1] [] (hp nS M) Q := by
  refine (eq_run 6 (q := (17, [.ref 205, .int x1], [.int ((M 205 32) - 1), .ref 221], hp nS M)) (by with_unfolding_all rfl)).trans ?_
  refine (eq_ald (e := (.iaload, 1, 0, 0, 0)) (by with_unfolding_all rfl) rfl (n := 40) (by with_unfolding_all rfl) h1).trans ?_
  refine (eq_run 1 (q := (19, [.ref 205, .int x1], [.int x1, .int (M 221 ((M 205 32) - 1).toNatClampNeg)], hp nS M)) (by with_unfolding_all rfl)).trans ?_
  exact eq_cmp_ne (by with_unfolding_all rfl)
set_option maxRecDepth 20000 in
theorem b_214_22 {d nS : Nat} {x1 : Int32} {M : am_M} {Q : Option Value → am_H → Prop} : am_Wp (d + 1) 214 22 [.ref 205, .int x1] [] (hp nS M) Q = am_Wp d 210 0 [.ref 205, .int x1, .int 0] [] (hp nS (am_up M 205 32 ((M 205 32) - 1))) (fun v h1 => am_Wp (d + 1) 214 38 [.ref 205, .int x1] (am_ans v []) h1 Q) := by
  refine (eq_run 9 (q := (35, [.ref 205, .int x1], [.int 0, .int x1, .ref 205], hp nS (am_up M 205 32 ((M 205 32) - 1)))) (by with_unfolding_all rfl)).trans ?_
  exact eq_call2 (e := (.invokevirtual 214, 3, 0, 210, 289)) (as := [.ref 205, .int x1, .int 0]) (r := []) (n := 3) (m := 3) (by with_unfolding_all rfl) rfl (by decide) (by with_unfolding_all rfl) (by decide) (by with_unfolding_all rfl) ⟨fun _ => am_rec_ok (c := 14) (by with_unfolding_all rfl) (by decide +kernel), fun z => by simp at z⟩
set_option maxRecDepth 20000 in
theorem b_214_38 {d nS : Nat} {x1 : Int32} {M : am_M} {Q : Option Value → am_H → Prop} : am_Wp d 214 38 [.ref 205, .int x1] [] (hp nS M) Q = if ¬ x1 = 9 then am_Wp d 214 0 [.ref 205, .int x1] [] (hp nS M) Q else am_Wp d 214 44 [.ref 205, .int x1] [] (hp nS M) Q := by
  refine (eq_run 2 (q := (41, [.ref 205, .int x1], [.int 9, .int x1], hp nS M)) (by with_unfolding_all rfl)).trans ?_
  exact eq_cmp_ne (by with_unfolding_all rfl)
set_option maxRecDepth 20000 in
theorem b_214_44 {d nS : Nat} {x1 : Int32} {M : am_M} {Q : Option Value → am_H → Prop} : am_Wp d 214 44 [.ref 205, .int x1] [] (hp nS M) Q = am_Wp d 214 0 [.ref 205, .int x1] [] (hp nS (am_up M 205 30 ((M 205 30) - 1))) Q := by
  exact eq_run 7 (q := (0, [.ref 205, .int x1], [], hp nS (am_up M 205 30 ((M 205 30) - 1)))) (by with_unfolding_all rfl)
set_option maxRecDepth 20000 in
theorem b_214_57 {d nS : Nat} {x1 : Int32} {M : am_M} {Q : Option Value → am_H → Prop} : am_Wp d 214 57 [.ref 205, .int x1] [] (hp nS M) Q = Q none (hp nS M) := by
  exact eq_retV2 (e := (.return_, 1, 0, 0, 0)) (by with_unfolding_all rfl) rfl (by with_unfolding_all rfl)
-- takesLaw(I)V
set_option maxRecDepth 20000 in
theorem b_215_0 {d nS : Nat} {x1 : Int32} {M : am_M} {Q : Option Value → am_H → Prop} : am_Wp d 215 0 [.ref 205, .int x1, .retAddr 0] [] (hp nS M) Q = am_Wp d 215 2 [.ref 205, .int x1, .int 0] [] (hp nS M) Q := by
  exact eq_run 2 (q := (2, [.ref 205, .int x1, .int 0], [], hp nS M)) (by with_unfolding_all rfl)
set_option maxRecDepth 20000 in
theorem b_215_2 {d nS : Nat} {x1 x2 : Int32} {M : am_M} {Q : Option Value → am_H → Prop} : am_Wp d 215 2 [.ref 205, .int x1, .int x2] [] (hp nS M) Q = if x1 ≤ x2 then am_Wp d 215 105 [.ref 205, .int x1, .int x2] [] (hp nS M) Q else am_Wp d 215 7 [.ref 205, .int x1, .int x2] [] (hp nS M) Q := by
  refine (eq_run 2 (q := (4, [.ref 205, .int x1, .int x2], [.int x1, .int x2], hp nS M)) (by with_unfolding_all rfl)).trans ?_
  exact eq_cmp_ge (by with_unfolding_all rfl)
set_option maxRecDepth 20000 in
theorem b_215_7 {d nS : Nat} {x1 x2 : Int32} {M : am_M} {Q : Option Value → am_H → Prop} (h1 : vp_in (32 + x2) 48) (h2 : vp_in ((16 * (M 205 28)) + x2) 48) (h3 : vp_in (32 + x2) 48) (h4 : vp_in ((16 * ((am_up M 215 ((16 * (M 205 28)) + x2).toNatClampNeg (M 215 (32 + x2).toNatClampNeg)) 205 28)) + x2) 48) (h5 : vp_in (32 + x2) 48) (h6 : vp_in ((16 * ((am_up (am_up M 215 ((16 * (M 205 28)) + x2).toNatClampNeg (M 215 (32 + x2).toNatClampNeg)) 216 ((16 * ((am_up M 215 ((16 * (M 205 28)) + x2).toNatClampNeg (M 215 (32 + x2).toNatClampNeg)) 205 28)) + x2).toNatClampNeg ((am_up M 215 ((16 * (M 205 28)) + x2).toNatClampNeg (M 215 (32 + x2).toNatClampNeg)) 216 (32 + x2).toNatClampNeg)) 205 28)) + x2) 48) (h7 : vp_in (32 + x2) 48) (h8 : vp_in ((16 * ((am_up (am_up (am_up M 215 ((16 * (M 205 28)) + x2).toNatClampNeg (M 215 (32 + x2).toNatClampNeg)) 216 ((16 * ((am_up M 215 ((16 * (M 205 28)) + x2).toNatClampNeg (M 215 (32 + x2).toNatClampNeg)) 205 28)) + x2).toNatClampNeg ((am_up M 215 ((16 * (M 205 28)) + x2).toNatClampNeg (M 215 (32 + x2).toNatClampNeg)) 216 (32 + x2).toNatClampNeg)) 217 ((16 * ((am_up (am_up M 215 ((16 * (M 205 28)) + x2).toNatClampNeg (M 215 (32 + x2).toNatClampNeg)) 216 ((16 * ((am_up M 215 ((16 * (M 205 28)) + x2).toNatClampNeg (M 215 (32 + x2).toNatClampNeg)) 205 28)) + x2).toNatClampNeg ((am_up M 215 ((16 * (M 205 28)) + x2).toNatClampNeg (M 215 (32 + x2).toNatClampNeg)) 216 (32 + x2).toNatClampNeg)) 205 28)) + x2).toNatClampNeg ((am_up (am_up M 215 ((16 * (M 205 28)) + x2).toNatClampNeg (M 215 (32 + x2).toNatClampNeg)) 216 ((16 * ((am_up M 215 ((16 * (M 205 28)) + x2).toNatClampNeg (M 215 (32 + x2).toNatClampNeg)) 205 28)) + x2).toNatClampNeg ((am_up M 215 ((16 * (M 205 28)) + x2).toNatClampNeg (M 215 (32 + x2).toNatClampNeg)) 216 (32 + x2).toNatClampNeg)) 217 (32 + x2).toNatClampNeg)) 205 28)) + x2) 48) : am_Wp d 215 7 [.ref 205, .int x1, .int x2] [] (hp nS M) Q = am_Wp d 215 2 [.ref 205, .int x1, .int (x2 + 1)] [] (hp nS (am_up (am_up (am_up (am_up M 215 ((16 * (M 205 28)) + x2).toNatClampNeg (M 215 (32 + x2).toNatClampNeg)) 216 ((16 * ((am_up M 215 ((16 * (M 205 28)) + x2).toNatClampNeg (M 215 (32 + x2).toNatClampNeg)) 205 28)) + x2).toNatClampNeg ((am_up M 215 ((16 * (M 205 28)) + x2).toNatClampNeg (M 215 (32 + x2).toNatClampNeg)) 216 (32 + x2).toNatClampNeg)) 217 ((16 * ((am_up (am_up M 215 ((16 * (M 205 28)) + x2).toNatClampNeg (M 215 (32 + x2).toNatClampNeg)) 216 ((16 * ((am_up M 215 ((16 * (M 205 28)) + x2).toNatClampNeg (M 215 (32 + x2).toNatClampNeg)) 205 28)) + x2).toNatClampNeg ((am_up M 215 ((16 * (M 205 28)) + x2).toNatClampNeg (M 215 (32 + x2).toNatClampNeg)) 216 (32 + x2).toNatClampNeg)) 205 28)) + x2).toNatClampNeg ((am_up (am_up M 215 ((16 * (M 205 28)) + x2).toNatClampNeg (M 215 (32 + x2).toNatClampNeg)) 216 ((16 * ((am_up M 215 ((16 * (M 205 28)) + x2).toNatClampNeg (M 215 (32 + x2).toNatClampNeg)) 205 28)) + x2).toNatClampNeg ((am_up M 215 ((16 * (M 205 28)) + x2).toNatClampNeg (M 215 (32 + x2).toNatClampNeg)) 216 (32 + x2).toNatClampNeg)) 217 (32 + x2).toNatClampNeg)) 218 ((16 * ((am_up (am_up (am_up M 215 ((16 * (M 205 28)) + x2).toNatClampNeg (M 215 (32 + x2).toNatClampNeg)) 216 ((16 * ((am_up M 215 ((16 * (M 205 28)) + x2).toNatClampNeg (M 215 (32 + x2).toNatClampNeg)) 205 28)) + x2).toNatClampNeg ((am_up M 215 ((16 * (M 205 28)) + x2).toNatClampNeg (M 215 (32 + x2).toNatClampNeg)) 216 (32 + x2).toNatClampNeg)) 217 ((16 * ((am_up (am_up M 215 ((16 * (M 205 28)) + x2).toNatClampNeg (M 215 (32 + x2).toNatClampNeg)) 216 ((16 * ((am_up M 215 ((16 * (M 205 28)) + x2).toNatClampNeg (M 215 (32 + x2).toNatClampNeg)) 205 28)) + x2).toNatClampNeg ((am_up M 215 ((16 * (M 205 28)) + x2).toNatClampNeg (M 215 (32 + x2).toNatClampNeg)) 216 (32 + x2).toNatClampNeg)) 205 28)) + x2).toNatClampNeg ((am_up (am_up M 215 ((16 * (M 205 28)) + x2).toNatClampNeg (M 215 (32 + x2).toNatClampNeg)) 216 ((16 * ((am_up M 215 ((16 * (M 205 28)) + x2).toNatClampNeg (M 215 (32 + x2).toNatClampNeg)) 205 28)) + x2).toNatClampNeg ((am_up M 215 ((16 * (M 205 28)) + x2).toNatClampNeg (M 215 (32 + x2).toNatClampNeg)) 216 (32 + x2).toNatClampNeg)) 217 (32 + x2).toNatClampNeg)) 205 28)) + x2).toNatClampNeg ((am_up (am_up (am_up M 215 ((16 * (M 205 28)) + x2).toNatClampNeg (M 215 (32 + x2).toNatClampNeg)) 216 ((16 * ((am_up M 215 ((16 * (M 205 28)) + x2).toNatClampNeg (M 215 (32 + x2).toNatClampNeg)) 205 28)) + x2).toNatClampNeg ((am_up M 215 ((16 * (M 205 28)) + x2).toNatClampNeg (M 215 (32 + x2).toNatClampNeg)) 216 (32 + x2).toNatClampNeg)) 217 ((16 * ((am_up (am_up M 215 ((16 * (M 205 28)) + x2).toNatClampNeg (M 215 (32 + x2).toNatClampNeg)) 216 ((16 * ((am_up M 215 ((16 * (M 205 28)) + x2).toNatClampNeg (M 215 (32 + x2).toNatClampNeg)) 205 28)) + x2).toNatClampNeg ((am_up M 215 ((16 * (M 205 28)) + x2).toNatClampNeg (M 215 (32 + x2).toNatClampNeg)) 216 (32 + x2).toNatClampNeg)) 205 28)) + x2).toNatClampNeg ((am_up (am_up M 215 ((16 * (M 205 28)) + x2).toNatClampNeg (M 215 (32 + x2).toNatClampNeg)) 216 ((16 * ((am_up M 215 ((16 * (M 205 28)) + x2).toNatClampNeg (M 215 (32 + x2).toNatClampNeg)) 205 28)) + x2).toNatClampNeg ((am_up M 215 ((16 * (M 205 28)) + x2).toNatClampNeg (M 215 (32 + x2).toNatClampNeg)) 216 (32 + x2).toNatClampNeg)) 217 (32 + x2).toNatClampNeg)) 218 (32 + x2).toNatClampNeg))) Q := by
  refine (eq_run 13 (q := (28, [.ref 205, .int x1, .int x2], [.int (32 + x2), .ref 215, .int ((16 * (M 205 28)) + x2), .ref 215], hp nS M)) (by with_unfolding_all rfl)).trans ?_
  refine (eq_ald (e := (.iaload, 1, 0, 0, 0)) (by with_unfolding_all rfl) rfl (n := 48) (by with_unfolding_all rfl) h1).trans ?_
  refine (eq_ast (e := (.iastore, 1, 0, 0, 0)) (by with_unfolding_all rfl) rfl (n := 48) (by with_unfolding_all rfl) (by decide) h2).trans ?_
  refine (eq_run 13 (q := (51, [.ref 205, .int x1, .int x2], [.int (32 + x2), .ref 216, .int ((16 * ((am_up M 215 ((16 * (M 205 28)) + x2).toNatClampNeg (M 215 (32 + x2).toNatClampNeg)) 205 28)) + x2), .ref 216], hp nS (am_up M 215 ((16 * (M 205 28)) + x2).toNatClampNeg (M 215 (32 + x2).toNatClampNeg)))) (by with_unfolding_all rfl)).trans ?_
  refine (eq_ald (e := (.iaload, 1, 0, 0, 0)) (by with_unfolding_all rfl) rfl (n := 48) (by with_unfolding_all rfl) h3).trans ?_
  refine (eq_ast (e := (.iastore, 1, 0, 0, 0)) (by with_unfolding_all rfl) rfl (n := 48) (by with_unfolding_all rfl) (by decide) h4).trans ?_
  refine (eq_run 13 (q := (74, [.ref 205, .int x1, .int x2], [.int (32 + x2), .ref 217, .int ((16 * ((am_up (am_up M 215 ((16 * (M 205 28)) + x2).toNatClampNeg (M 215 (32 + x2).toNatClampNeg)) 216 ((16 * ((am_up M 215 ((16 * (M 205 28)) + x2).toNatClampNeg (M 215 (32 + x2).toNatClampNeg)) 205 28)) + x2).toNatClampNeg ((am_up M 215 ((16 * (M 205 28)) + x2).toNatClampNeg (M 215 (32 + x2).toNatClampNeg)) 216 (32 + x2).toNatClampNeg)) 205 28)) + x2), .ref 217], hp nS (am_up (am_up M 215 ((16 * (M 205 28)) + x2).toNatClampNeg (M 215 (32 + x2).toNatClampNeg)) 216 ((16 * ((am_up M 215 ((16 * (M 205 28)) + x2).toNatClampNeg (M 215 (32 + x2).toNatClampNeg)) 205 28)) + x2).toNatClampNeg ((am_up M 215 ((16 * (M 205 28)) + x2).toNatClampNeg (M 215 (32 + x2).toNatClampNeg)) 216 (32 + x2).toNatClampNeg)))) (by with_unfolding_all rfl)).trans ?_
  refine (eq_ald (e := (.iaload, 1, 0, 0, 0)) (by with_unfolding_all rfl) rfl (n := 48) (by with_unfolding_all rfl) h5).trans ?_
  refine (eq_ast (e := (.iastore, 1, 0, 0, 0)) (by with_unfolding_all rfl) rfl (n := 48) (by with_unfolding_all rfl) (by decide) h6).trans ?_
  refine (eq_run 13 (q := (97, [.ref 205, .int x1, .int x2], [.int (32 + x2), .ref 218, .int ((16 * ((am_up (am_up (am_up M 215 ((16 * (M 205 28)) + x2).toNatClampNeg (M 215 (32 + x2).toNatClampNeg)) 216 ((16 * ((am_up M 215 ((16 * (M 205 28)) + x2).toNatClampNeg (M 215 (32 + x2).toNatClampNeg)) 205 28)) + x2).toNatClampNeg ((am_up M 215 ((16 * (M 205 28)) + x2).toNatClampNeg (M 215 (32 + x2).toNatClampNeg)) 216 (32 + x2).toNatClampNeg)) 217 ((16 * ((am_up (am_up M 215 ((16 * (M 205 28)) + x2).toNatClampNeg (M 215 (32 + x2).toNatClampNeg)) 216 ((16 * ((am_up M 215 ((16 * (M 205 28)) + x2).toNatClampNeg (M 215 (32 + x2).toNatClampNeg)) 205 28)) + x2).toNatClampNeg ((am_up M 215 ((16 * (M 205 28)) + x2).toNatClampNeg (M 215 (32 + x2).toNatClampNeg)) 216 (32 + x2).toNatClampNeg)) 205 28)) + x2).toNatClampNeg ((am_up (am_up M 215 ((16 * (M 205 28)) + x2).toNatClampNeg (M 215 (32 + x2).toNatClampNeg)) 216 ((16 * ((am_up M 215 ((16 * (M 205 28)) + x2).toNatClampNeg (M 215 (32 + x2).toNatClampNeg)) 205 28)) + x2).toNatClampNeg ((am_up M 215 ((16 * (M 205 28)) + x2).toNatClampNeg (M 215 (32 + x2).toNatClampNeg)) 216 (32 + x2).toNatClampNeg)) 217 (32 + x2).toNatClampNeg)) 205 28)) + x2), .ref 218], hp nS (am_up (am_up (am_up M 215 ((16 * (M 205 28)) + x2).toNatClampNeg (M 215 (32 + x2).toNatClampNeg)) 216 ((16 * ((am_up M 215 ((16 * (M 205 28)) + x2).toNatClampNeg (M 215 (32 + x2).toNatClampNeg)) 205 28)) + x2).toNatClampNeg ((am_up M 215 ((16 * (M 205 28)) + x2).toNatClampNeg (M 215 (32 + x2).toNatClampNeg)) 216 (32 + x2).toNatClampNeg)) 217 ((16 * ((am_up (am_up M 215 ((16 * (M 205 28)) + x2).toNatClampNeg (M 215 (32 + x2).toNatClampNeg)) 216 ((16 * ((am_up M 215 ((16 * (M 205 28)) + x2).toNatClampNeg (M 215 (32 + x2).toNatClampNeg)) 205 28)) + x2).toNatClampNeg ((am_up M 215 ((16 * (M 205 28)) + x2).toNatClampNeg (M 215 (32 + x2).toNatClampNeg)) 216 (32 + x2).toNatClampNeg)) 205 28)) + x2).toNatClampNeg ((am_up (am_up M 215 ((16 * (M 205 28)) + x2).toNatClampNeg (M 215 (32 + x2).toNatClampNeg)) 216 ((16 * ((am_up M 215 ((16 * (M 205 28)) + x2).toNatClampNeg (M 215 (32 + x2).toNatClampNeg)) 205 28)) + x2).toNatClampNeg ((am_up M 215 ((16 * (M 205 28)) + x2).toNatClampNeg (M 215 (32 + x2).toNatClampNeg)) 216 (32 + x2).toNatClampNeg)) 217 (32 + x2).toNatClampNeg)))) (by with_unfolding_all rfl)).trans ?_
  refine (eq_ald (e := (.iaload, 1, 0, 0, 0)) (by with_unfolding_all rfl) rfl (n := 48) (by with_unfolding_all rfl) h7).trans ?_
  refine (eq_ast (e := (.iastore, 1, 0, 0, 0)) (by with_unfolding_all rfl) rfl (n := 48) (by with_unfolding_all rfl) (by decide) h8).trans ?_
  exact eq_run 2 (q := (2, [.ref 205, .int x1, .int (x2 + 1)], [], hp nS (am_up (am_up (am_up (am_up M 215 ((16 * (M 205 28)) + x2).toNatClampNeg (M 215 (32 + x2).toNatClampNeg)) 216 ((16 * ((am_up M 215 ((16 * (M 205 28)) + x2).toNatClampNeg (M 215 (32 + x2).toNatClampNeg)) 205 28)) + x2).toNatClampNeg ((am_up M 215 ((16 * (M 205 28)) + x2).toNatClampNeg (M 215 (32 + x2).toNatClampNeg)) 216 (32 + x2).toNatClampNeg)) 217 ((16 * ((am_up (am_up M 215 ((16 * (M 205 28)) + x2).toNatClampNeg (M 215 (32 + x2).toNatClampNeg)) 216 ((16 * ((am_up M 215 ((16 * (M 205 28)) + x2).toNatClampNeg (M 215 (32 + x2).toNatClampNeg)) 205 28)) + x2).toNatClampNeg ((am_up M 215 ((16 * (M 205 28)) + x2).toNatClampNeg (M 215 (32 + x2).toNatClampNeg)) 216 (32 + x2).toNatClampNeg)) 205 28)) + x2).toNatClampNeg ((am_up (am_up M 215 ((16 * (M 205 28)) + x2).toNatClampNeg (M 215 (32 + x2).toNatClampNeg)) 216 ((16 * ((am_up M 215 ((16 * (M 205 28)) + x2).toNatClampNeg (M 215 (32 + x2).toNatClampNeg)) 205 28)) + x2).toNatClampNeg ((am_up M 215 ((16 * (M 205 28)) + x2).toNatClampNeg (M 215 (32 + x2).toNatClampNeg)) 216 (32 + x2).toNatClampNeg)) 217 (32 + x2).toNatClampNeg)) 218 ((16 * ((am_up (am_up (am_up M 215 ((16 * (M 205 28)) + x2).toNatClampNeg (M 215 (32 + x2).toNatClampNeg)) 216 ((16 * ((am_up M 215 ((16 * (M 205 28)) + x2).toNatClampNeg (M 215 (32 + x2).toNatClampNeg)) 205 28)) + x2).toNatClampNeg ((am_up M 215 ((16 * (M 205 28)) + x2).toNatClampNeg (M 215 (32 + x2).toNatClampNeg)) 216 (32 + x2).toNatClampNeg)) 217 ((16 * ((am_up (am_up M 215 ((16 * (M 205 28)) + x2).toNatClampNeg (M 215 (32 + x2).toNatClampNeg)) 216 ((16 * ((am_up M 215 ((16 * (M 205 28)) + x2).toNatClampNeg (M 215 (32 + x2).toNatClampNeg)) 205 28)) + x2).toNatClampNeg ((am_up M 215 ((16 * (M 205 28)) + x2).toNatClampNeg (M 215 (32 + x2).toNatClampNeg)) 216 (32 + x2).toNatClampNeg)) 205 28)) + x2).toNatClampNeg ((am_up (am_up M 215 ((16 * (M 205 28)) + x2).toNatClampNeg (M 215 (32 + x2).toNatClampNeg)) 216 ((16 * ((am_up M 215 ((16 * (M 205 28)) + x2).toNatClampNeg (M 215 (32 + x2).toNatClampNeg)) 205 28)) + x2).toNatClampNeg ((am_up M 215 ((16 * (M 205 28)) + x2).toNatClampNeg (M 215 (32 + x2).toNatClampNeg)) 216 (32 + x2).toNatClampNeg)) 217 (32 + x2).toNatClampNeg)) 205 28)) + x2).toNatClampNeg ((am_up (am_up (am_up M 215 ((16 * (M 205 28)) + x2).toNatClampNeg (M 215 (32 + x2).toNatClampNeg)) 216 ((16 * ((am_up M 215 ((16 * (M 205 28)) + x2).toNatClampNeg (M 215 (32 + x2).toNatClampNeg)) 205 28)) + x2).toNatClampNeg ((am_up M 215 ((16 * (M 205 28)) + x2).toNatClampNeg (M 215 (32 + x2).toNatClampNeg)) 216 (32 + x2).toNatClampNeg)) 217 ((16 * ((am_up (am_up M 215 ((16 * (M 205 28)) + x2).toNatClampNeg (M 215 (32 + x2).toNatClampNeg)) 216 ((16 * ((am_up M 215 ((16 * (M 205 28)) + x2).toNatClampNeg (M 215 (32 + x2).toNatClampNeg)) 205 28)) + x2).toNatClampNeg ((am_up M 215 ((16 * (M 205 28)) + x2).toNatClampNeg (M 215 (32 + x2).toNatClampNeg)) 216 (32 + x2).toNatClampNeg)) 205 28)) + x2).toNatClampNeg ((am_up (am_up M 215 ((16 * (M 205 28)) + x2).toNatClampNeg (M 215 (32 + x2).toNatClampNeg)) 216 ((16 * ((am_up M 215 ((16 * (M 205 28)) + x2).toNatClampNeg (M 215 (32 + x2).toNatClampNeg)) 205 28)) + x2).toNatClampNeg ((am_up M 215 ((16 * (M 205 28)) + x2).toNatClampNeg (M 215 (32 + x2).toNatClampNeg)) 216 (32 + x2).toNatClampNeg)) 217 (32 + x2).toNatClampNeg)) 218 (32 + x2).toNatClampNeg)))) (by with_unfolding_all rfl)
set_option maxRecDepth 20000 in
theorem b_215_105 {d nS : Nat} {x1 x2 : Int32} {M : am_M} {Q : Option Value → am_H → Prop} : am_Wp d 215 105 [.ref 205, .int x1, .int x2] [] (hp nS M) Q = am_Wp d 215 107 [.ref 205, .int x1, .int 0] [] (hp nS M) Q := by
  exact eq_run 2 (q := (107, [.ref 205, .int x1, .int 0], [], hp nS M)) (by with_unfolding_all rfl)
set_option maxRecDepth 20000 in
theorem b_215_107 {d nS : Nat} {x1 x2 : Int32} {M : am_M} {Q : Option Value → am_H → Prop} : am_Wp d 215 107 [.ref 205, .int x1, .int x2] [] (hp nS M) Q = if (M 205 29) ≤ x2 then am_Wp d 215 171 [.ref 205, .int x1, .int x2] [] (hp nS M) Q else am_Wp d 215 115 [.ref 205, .int x1, .int x2] [] (hp nS M) Q := by
  refine (eq_run 3 (q := (112, [.ref 205, .int x1, .int x2], [.int (M 205 29), .int x2], hp nS M)) (by with_unfolding_all rfl)).trans ?_
  exact eq_cmp_ge (by with_unfolding_all rfl)
set_option maxRecDepth 20000 in
theorem b_215_115 {d nS : Nat} {x1 x2 : Int32} {M : am_M} {Q : Option Value → am_H → Prop} (h1 : vp_in (800 + x2) 1200) (h2 : vp_in ((400 * (M 205 28)) + x2) 1200) (h3 : vp_in (800 + x2) 1200) (h4 : vp_in ((400 * ((am_up M 219 ((400 * (M 205 28)) + x2).toNatClampNeg (M 219 (800 + x2).toNatClampNeg)) 205 28)) + x2) 1200) : am_Wp d 215 115 [.ref 205, .int x1, .int x2] [] (hp nS M) Q = am_Wp d 215 107 [.ref 205, .int x1, .int (x2 + 1)] [] (hp nS (am_up (am_up M 219 ((400 * (M 205 28)) + x2).toNatClampNeg (M 219 (800 + x2).toNatClampNeg)) 220 ((400 * ((am_up M 219 ((400 * (M 205 28)) + x2).toNatClampNeg (M 219 (800 + x2).toNatClampNeg)) 205 28)) + x2).toNatClampNeg ((am_up M 219 ((400 * (M 205 28)) + x2).toNatClampNeg (M 219 (800 + x2).toNatClampNeg)) 220 (800 + x2).toNatClampNeg))) Q := by
  refine (eq_run 13 (q := (138, [.ref 205, .int x1, .int x2], [.int (800 + x2), .ref 219, .int ((400 * (M 205 28)) + x2), .ref 219], hp nS M)) (by with_unfolding_all rfl)).trans ?_
  refine (eq_ald (e := (.iaload, 1, 0, 0, 0)) (by with_unfolding_all rfl) rfl (n := 1200) (by with_unfolding_all rfl) h1).trans ?_
  refine (eq_ast (e := (.iastore, 1, 0, 0, 0)) (by with_unfolding_all rfl) rfl (n := 1200) (by with_unfolding_all rfl) (by decide) h2).trans ?_
  refine (eq_run 13 (q := (163, [.ref 205, .int x1, .int x2], [.int (800 + x2), .ref 220, .int ((400 * ((am_up M 219 ((400 * (M 205 28)) + x2).toNatClampNeg (M 219 (800 + x2).toNatClampNeg)) 205 28)) + x2), .ref 220], hp nS (am_up M 219 ((400 * (M 205 28)) + x2).toNatClampNeg (M 219 (800 + x2).toNatClampNeg)))) (by with_unfolding_all rfl)).trans ?_
  refine (eq_ald (e := (.iaload, 1, 0, 0, 0)) (by with_unfolding_all rfl) rfl (n := 1200) (by with_unfolding_all rfl) h3).trans ?_
  refine (eq_ast (e := (.iastore, 1, 0, 0, 0)) (by with_unfolding_all rfl) rfl (n := 1200) (by with_unfolding_all rfl) (by decide) h4).trans ?_
  exact eq_run 2 (q := (107, [.ref 205, .int x1, .int (x2 + 1)], [], hp nS (am_up (am_up M 219 ((400 * (M 205 28)) + x2).toNatClampNeg (M 219 (800 + x2).toNatClampNeg)) 220 ((400 * ((am_up M 219 ((400 * (M 205 28)) + x2).toNatClampNeg (M 219 (800 + x2).toNatClampNeg)) 205 28)) + x2).toNatClampNeg ((am_up M 219 ((400 * (M 205 28)) + x2).toNatClampNeg (M 219 (800 + x2).toNatClampNeg)) 220 (800 + x2).toNatClampNeg)))) (by with_unfolding_all rfl)
set_option maxRecDepth 20000 in
theorem b_215_171 {d nS : Nat} {x1 x2 : Int32} {M : am_M} {Q : Option Value → am_H → Prop} (h1 : vp_in (M 205 28) 2) : am_Wp d 215 171 [.ref 205, .int x1, .int x2] [] (hp nS M) Q = Q none (hp nS (am_up M 214 (M 205 28).toNatClampNeg x1)) := by
  refine (eq_run 5 (q := (180, [.ref 205, .int x1, .int x2], [.int x1, .int (M 205 28), .ref 214], hp nS M)) (by with_unfolding_all rfl)).trans ?_
  refine (eq_ast (e := (.iastore, 1, 0, 0, 0)) (by with_unfolding_all rfl) rfl (n := 2) (by with_unfolding_all rfl) (by decide) h1).trans ?_
  exact eq_retV2 (e := (.return_, 1, 0, 0, 0)) (by with_unfolding_all rfl) rfl (by with_unfolding_all rfl)
-- takesOther(II)V
set_option maxRecDepth 20000 in
theorem b_216_0 {d nS : Nat} {x1 x2 : Int32} {M : am_M} {Q : Option Value → am_H → Prop} : am_Wp d 216 0 [.ref 205, .int x1, .int x2, .retAddr 0] [] (hp nS M) Q = am_Wp d 216 2 [.ref 205, .int x1, .int x2, .int 0] [] (hp nS M) Q := by
  exact eq_run 2 (q := (2, [.ref 205, .int x1, .int x2, .int 0], [], hp nS M)) (by with_unfolding_all rfl)
set_option maxRecDepth 20000 in
theorem b_216_2 {d nS : Nat} {x1 x2 x3 : Int32} {M : am_M} {Q : Option Value → am_H → Prop} : am_Wp d 216 2 [.ref 205, .int x1, .int x2, .int x3] [] (hp nS M) Q = if (4 * x2) ≤ x3 then am_Wp d 216 55 [.ref 205, .int x1, .int x2, .int x3] [] (hp nS M) Q else am_Wp d 216 9 [.ref 205, .int x1, .int x2, .int x3] [] (hp nS M) Q := by
  refine (eq_run 4 (q := (6, [.ref 205, .int x1, .int x2, .int x3], [.int (4 * x2), .int x3], hp nS M)) (by with_unfolding_all rfl)).trans ?_
  exact eq_cmp_ge (by with_unfolding_all rfl)
set_option maxRecDepth 20000 in
theorem b_216_9 {d nS : Nat} {x1 x2 x3 : Int32} {M : am_M} {Q : Option Value → am_H → Prop} : am_Wp d 216 9 [.ref 205, .int x1, .int x2, .int x3] [] (hp nS M) Q = if ¬ x1 = 1 then am_Wp d 216 29 [.ref 205, .int x1, .int x2, .int x3] [] (hp nS M) Q else am_Wp d 216 14 [.ref 205, .int x1, .int x2, .int x3] [] (hp nS M) Q := by
  refine (eq_run 2 (q := (11, [.ref 205, .int x1, .int x2, .int x3], [.int 1, .int x1], hp nS M)) (by with_unfolding_all rfl)).trans ?_
  exact eq_cmp_ne (by with_unfolding_all rfl)
set_option maxRecDepth 20000 in
theorem b_216_14 {d nS : Nat} {x1 x2 x3 : Int32} {M : am_M} {Q : Option Value → am_H → Prop} (h1 : vp_in (64 + x3) 128) (h2 : vp_in x3 128) : am_Wp d 216 14 [.ref 205, .int x1, .int x2, .int x3] [] (hp nS M) Q = am_Wp d 216 29 [.ref 205, .int x1, .int x2, .int x3] [] (hp nS (am_up M 222 x3.toNatClampNeg (M 222 (64 + x3).toNatClampNeg))) Q := by
  refine (eq_run 8 (q := (27, [.ref 205, .int x1, .int x2, .int x3], [.int (64 + x3), .ref 222, .int x3, .ref 222], hp nS M)) (by with_unfolding_all rfl)).trans ?_
  refine (eq_ald (e := (.iaload, 1, 0, 0, 0)) (by with_unfolding_all rfl) rfl (n := 128) (by with_unfolding_all rfl) h1).trans ?_
  exact eq_ast (e := (.iastore, 1, 0, 0, 0)) (by with_unfolding_all rfl) rfl (n := 128) (by with_unfolding_all rfl) (by decide) h2
set_option maxRecDepth 20000 in
theorem b_216_29 {d nS : Nat} {x1 x2 x3 : Int32} {M : am_M} {Q : Option Value → am_H → Prop} : am_Wp d 216 29 [.ref 205, .int x1, .int x2, .int x3] [] (hp nS M) Q = if ¬ x1 = 2 then am_Wp d 216 49 [.ref 205, .int x1, .int x2, .int x3] [] (hp nS M) Q else am_Wp d 216 34 [.ref 205, .int x1, .int x2, .int x3] [] (hp nS M) Q := by
  refine (eq_run 2 (q := (31, [.ref 205, .int x1, .int x2, .int x3], [.int 2, .int x1], hp nS M)) (by with_unfolding_all rfl)).trans ?_
  exact eq_cmp_ne (by with_unfolding_all rfl)
set_option maxRecDepth 20000 in
theorem b_216_34 {d nS : Nat} {x1 x2 x3 : Int32} {M : am_M} {Q : Option Value → am_H → Prop} (h1 : vp_in (64 + x3) 128) (h2 : vp_in x3 128) : am_Wp d 216 34 [.ref 205, .int x1, .int x2, .int x3] [] (hp nS M) Q = am_Wp d 216 49 [.ref 205, .int x1, .int x2, .int x3] [] (hp nS (am_up M 223 x3.toNatClampNeg (M 223 (64 + x3).toNatClampNeg))) Q := by
  refine (eq_run 8 (q := (47, [.ref 205, .int x1, .int x2, .int x3], [.int (64 + x3), .ref 223, .int x3, .ref 223], hp nS M)) (by with_unfolding_all rfl)).trans ?_
  refine (eq_ald (e := (.iaload, 1, 0, 0, 0)) (by with_unfolding_all rfl) rfl (n := 128) (by with_unfolding_all rfl) h1).trans ?_
  exact eq_ast (e := (.iastore, 1, 0, 0, 0)) (by with_unfolding_all rfl) rfl (n := 128) (by with_unfolding_all rfl) (by decide) h2
set_option maxRecDepth 20000 in
theorem b_216_49 {d nS : Nat} {x1 x2 x3 : Int32} {M : am_M} {Q : Option Value → am_H → Prop} : am_Wp d 216 49 [.ref 205, .int x1, .int x2, .int x3] [] (hp nS M) Q = am_Wp d 216 2 [.ref 205, .int x1, .int x2, .int (x3 + 1)] [] (hp nS M) Q := by
  exact eq_run 2 (q := (2, [.ref 205, .int x1, .int x2, .int (x3 + 1)], [], hp nS M)) (by with_unfolding_all rfl)
set_option maxRecDepth 20000 in
theorem b_216_55 {d nS : Nat} {x1 x2 x3 : Int32} {M : am_M} {Q : Option Value → am_H → Prop} : am_Wp d 216 55 [.ref 205, .int x1, .int x2, .int x3] [] (hp nS M) Q = am_Wp d 216 57 [.ref 205, .int x1, .int x2, .int 0] [] (hp nS M) Q := by
  exact eq_run 2 (q := (57, [.ref 205, .int x1, .int x2, .int 0], [], hp nS M)) (by with_unfolding_all rfl)
set_option maxRecDepth 20000 in
theorem b_216_57 {d nS : Nat} {x1 x2 x3 : Int32} {M : am_M} {Q : Option Value → am_H → Prop} : am_Wp d 216 57 [.ref 205, .int x1, .int x2, .int x3] [] (hp nS M) Q = if 8 ≤ x3 then am_Wp d 216 89 [.ref 205, .int x1, .int x2, .int x3] [] (hp nS M) Q else am_Wp d 216 63 [.ref 205, .int x1, .int x2, .int x3] [] (hp nS M) Q := by
  refine (eq_run 2 (q := (60, [.ref 205, .int x1, .int x2, .int x3], [.int 8, .int x3], hp nS M)) (by with_unfolding_all rfl)).trans ?_
  exact eq_cmp_ge (by with_unfolding_all rfl)
set_option maxRecDepth 20000 in
theorem b_216_63 {d nS : Nat} {x1 x2 x3 : Int32} {M : am_M} {Q : Option Value → am_H → Prop} : am_Wp d 216 63 [.ref 205, .int x1, .int x2, .int x3] [] (hp nS M) Q = if ¬ x1 = 3 then am_Wp d 216 89 [.ref 205, .int x1, .int x2, .int x3] [] (hp nS M) Q else am_Wp d 216 68 [.ref 205, .int x1, .int x2, .int x3] [] (hp nS M) Q := by
  refine (eq_run 2 (q := (65, [.ref 205, .int x1, .int x2, .int x3], [.int 3, .int x1], hp nS M)) (by with_unfolding_all rfl)).trans ?_
  exact eq_cmp_ne (by with_unfolding_all rfl)
set_option maxRecDepth 20000 in
theorem b_216_68 {d nS : Nat} {x1 x2 x3 : Int32} {M : am_M} {Q : Option Value → am_H → Prop} (h1 : vp_in (8 + x3) 16) (h2 : vp_in x3 16) : am_Wp d 216 68 [.ref 205, .int x1, .int x2, .int x3] [] (hp nS M) Q = am_Wp d 216 57 [.ref 205, .int x1, .int x2, .int (x3 + 1)] [] (hp nS (am_up M 224 x3.toNatClampNeg (M 224 (8 + x3).toNatClampNeg))) Q := by
  refine (eq_run 8 (q := (81, [.ref 205, .int x1, .int x2, .int x3], [.int (8 + x3), .ref 224, .int x3, .ref 224], hp nS M)) (by with_unfolding_all rfl)).trans ?_
  refine (eq_ald (e := (.iaload, 1, 0, 0, 0)) (by with_unfolding_all rfl) rfl (n := 16) (by with_unfolding_all rfl) h1).trans ?_
  refine (eq_ast (e := (.iastore, 1, 0, 0, 0)) (by with_unfolding_all rfl) rfl (n := 16) (by with_unfolding_all rfl) (by decide) h2).trans ?_
  exact eq_run 2 (q := (57, [.ref 205, .int x1, .int x2, .int (x3 + 1)], [], hp nS (am_up M 224 x3.toNatClampNeg (M 224 (8 + x3).toNatClampNeg)))) (by with_unfolding_all rfl)
set_option maxRecDepth 20000 in
theorem b_216_89 {d nS : Nat} {x1 x2 x3 : Int32} {M : am_M} {Q : Option Value → am_H → Prop} : am_Wp d 216 89 [.ref 205, .int x1, .int x2, .int x3] [] (hp nS M) Q = if ¬ x1 = 1 then am_Wp d 216 99 [.ref 205, .int x1, .int x2, .int x3] [] (hp nS M) Q else am_Wp d 216 94 [.ref 205, .int x1, .int x2, .int x3] [] (hp nS M) Q := by
  refine (eq_run 2 (q := (91, [.ref 205, .int x1, .int x2, .int x3], [.int 1, .int x1], hp nS M)) (by with_unfolding_all rfl)).trans ?_
  exact eq_cmp_ne (by with_unfolding_all rfl)
set_option maxRecDepth 20000 in
theorem b_216_94 {d nS : Nat} {x1 x2 x3 : Int32} {M : am_M} {Q : Option Value → am_H → Prop} : am_Wp d 216 94 [.ref 205, .int x1, .int x2, .int x3] [] (hp nS M) Q = am_Wp d 216 99 [.ref 205, .int x1, .int x2, .int x3] [] (hp nS (am_up M 205 37 x2)) Q := by
  exact eq_run 3 (q := (99, [.ref 205, .int x1, .int x2, .int x3], [], hp nS (am_up M 205 37 x2))) (by with_unfolding_all rfl)
set_option maxRecDepth 20000 in
theorem b_216_99 {d nS : Nat} {x1 x2 x3 : Int32} {M : am_M} {Q : Option Value → am_H → Prop} : am_Wp d 216 99 [.ref 205, .int x1, .int x2, .int x3] [] (hp nS M) Q = if ¬ x1 = 2 then am_Wp d 216 109 [.ref 205, .int x1, .int x2, .int x3] [] (hp nS M) Q else am_Wp d 216 104 [.ref 205, .int x1, .int x2, .int x3] [] (hp nS M) Q := by
  refine (eq_run 2 (q := (101, [.ref 205, .int x1, .int x2, .int x3], [.int 2, .int x1], hp nS M)) (by with_unfolding_all rfl)).trans ?_
  exact eq_cmp_ne (by with_unfolding_all rfl)
set_option maxRecDepth 20000 in
theorem b_216_104 {d nS : Nat} {x1 x2 x3 : Int32} {M : am_M} {Q : Option Value → am_H → Prop} : am_Wp d 216 104 [.ref 205, .int x1, .int x2, .int x3] [] (hp nS M) Q = am_Wp d 216 109 [.ref 205, .int x1, .int x2, .int x3] [] (hp nS (am_up M 205 39 x2)) Q := by
  exact eq_run 3 (q := (109, [.ref 205, .int x1, .int x2, .int x3], [], hp nS (am_up M 205 39 x2))) (by with_unfolding_all rfl)
set_option maxRecDepth 20000 in
theorem b_216_109 {d nS : Nat} {x1 x2 x3 : Int32} {M : am_M} {Q : Option Value → am_H → Prop} : am_Wp d 216 109 [.ref 205, .int x1, .int x2, .int x3] [] (hp nS M) Q = if ¬ x1 = 3 then am_Wp d 216 119 [.ref 205, .int x1, .int x2, .int x3] [] (hp nS M) Q else am_Wp d 216 114 [.ref 205, .int x1, .int x2, .int x3] [] (hp nS M) Q := by
  refine (eq_run 2 (q := (111, [.ref 205, .int x1, .int x2, .int x3], [.int 3, .int x1], hp nS M)) (by with_unfolding_all rfl)).trans ?_
  exact eq_cmp_ne (by with_unfolding_all rfl)
set_option maxRecDepth 20000 in
theorem b_216_114 {d nS : Nat} {x1 x2 x3 : Int32} {M : am_M} {Q : Option Value → am_H → Prop} : am_Wp d 216 114 [.ref 205, .int x1, .int x2, .int x3] [] (hp nS M) Q = am_Wp d 216 119 [.ref 205, .int x1, .int x2, .int x3] [] (hp nS (am_up M 205 41 x2)) Q := by
  exact eq_run 3 (q := (119, [.ref 205, .int x1, .int x2, .int x3], [], hp nS (am_up M 205 41 x2))) (by with_unfolding_all rfl)
set_option maxRecDepth 20000 in
theorem b_216_119 {d nS : Nat} {x1 x2 x3 : Int32} {M : am_M} {Q : Option Value → am_H → Prop} : am_Wp d 216 119 [.ref 205, .int x1, .int x2, .int x3] [] (hp nS M) Q = Q none (hp nS (am_up M 205 5 0)) := by
  refine (eq_run 3 (q := (124, [.ref 205, .int x1, .int x2, .int x3], [], hp nS (am_up M 205 5 0))) (by with_unfolding_all rfl)).trans ?_
  exact eq_retV2 (e := (.return_, 1, 0, 0, 0)) (by with_unfolding_all rfl) rfl (by with_unfolding_all rfl)
-- fault(I)I
set_option maxRecDepth 20000 in
theorem b_217_0 {d nS : Nat} {x1 : Int32} {M : am_M} {Q : Option Value → am_H → Prop} : am_Wp d 217 0 [.ref 205, .int x1] [] (hp nS M) Q = if ¬ x1 = 0 then am_Wp d 217 16 [.ref 205, .int x1] [] (hp nS (am_up M 205 0 0)) Q else am_Wp d 217 9 [.ref 205, .int x1] [] (hp nS (am_up M 205 0 0)) Q := by
  refine (eq_run 4 (q := (6, [.ref 205, .int x1], [.int x1], hp nS (am_up M 205 0 0))) (by with_unfolding_all rfl)).trans ?_
  exact eq_if_ne (by with_unfolding_all rfl)
set_option maxRecDepth 20000 in
theorem b_217_9 {d nS : Nat} {x1 : Int32} {M : am_M} {Q : Option Value → am_H → Prop} : am_Wp d 217 9 [.ref 205, .int x1] [] (hp nS M) Q = am_Wp d 217 29 [.ref 205, .int x1] [.int (M 205 35)] (hp nS M) Q := by
  exact eq_run 3 (q := (29, [.ref 205, .int x1], [.int (M 205 35)], hp nS M)) (by with_unfolding_all rfl)
set_option maxRecDepth 20000 in
theorem b_217_16 {d nS : Nat} {x1 : Int32} {M : am_M} {Q : Option Value → am_H → Prop} : am_Wp d 217 16 [.ref 205, .int x1] [] (hp nS M) Q = if ¬ x1 = 1 then am_Wp d 217 28 [.ref 205, .int x1] [] (hp nS M) Q else am_Wp d 217 21 [.ref 205, .int x1] [] (hp nS M) Q := by
  refine (eq_run 2 (q := (18, [.ref 205, .int x1], [.int 1, .int x1], hp nS M)) (by with_unfolding_all rfl)).trans ?_
  exact eq_cmp_ne (by with_unfolding_all rfl)
set_option maxRecDepth 20000 in
theorem b_217_21 {d nS : Nat} {x1 : Int32} {M : am_M} {Q : Option Value → am_H → Prop} : am_Wp d 217 21 [.ref 205, .int x1] [] (hp nS M) Q = am_Wp d 217 29 [.ref 205, .int x1] [.int (M 205 36)] (hp nS M) Q := by
  exact eq_run 3 (q := (29, [.ref 205, .int x1], [.int (M 205 36)], hp nS M)) (by with_unfolding_all rfl)
set_option maxRecDepth 20000 in
theorem b_217_28 {d nS : Nat} {x1 : Int32} {M : am_M} {Q : Option Value → am_H → Prop} : am_Wp d 217 28 [.ref 205, .int x1] [] (hp nS M) Q = am_Wp d 217 29 [.ref 205, .int x1] [.int (-1)] (hp nS M) Q := by
  exact eq_run 1 (q := (29, [.ref 205, .int x1], [.int (-1)], hp nS M)) (by with_unfolding_all rfl)
set_option maxRecDepth 20000 in
theorem b_217_29 {d nS : Nat} {x1 s0 : Int32} {M : am_M} {Q : Option Value → am_H → Prop} : am_Wp d 217 29 [.ref 205, .int x1] [.int s0] (hp nS M) Q = Q (some (.int s0)) (hp nS M) := by
  exact eq_retI2 (e := (.ireturn, 1, 0, 0, 0)) (t := .int) (by with_unfolding_all rfl) rfl (by with_unfolding_all rfl) rfl
-- act(III)Z
set_option maxRecDepth 20000 in
theorem b_218_0 {d nS : Nat} {x1 x2 x3 : Int32} {M : am_M} {Q : Option Value → am_H → Prop} : am_Wp (d + 1) 218 0 [.ref 205, .int x1, .int x2, .int x3] [] (hp nS M) Q = am_Wp d 219 0 [.ref 205, .int x1, .int x2, .int x3] [] (hp nS (am_up M 205 0 0)) (fun v h1 => am_Wp (d + 1) 218 12 [.ref 205, .int x1, .int x2, .int x3] (am_ans v []) h1 Q) := by
  refine (eq_run 7 (q := (9, [.ref 205, .int x1, .int x2, .int x3], [.int x3, .int x2, .int x1, .ref 205], hp nS (am_up M 205 0 0))) (by with_unfolding_all rfl)).trans ?_
  exact eq_call2 (e := (.invokevirtual 352, 3, 0, 219, 326)) (as := [.ref 205, .int x1, .int x2, .int x3]) (r := []) (n := 4) (m := 4) (by with_unfolding_all rfl) rfl (by decide) (by with_unfolding_all rfl) (by decide) (by with_unfolding_all rfl) ⟨fun _ => am_rec_ok (c := 14) (by with_unfolding_all rfl) (by decide +kernel), fun z => by simp at z⟩
set_option maxRecDepth 20000 in
theorem b_218_12 {d nS : Nat} {x1 x2 x3 s0 : Int32} {M : am_M} {Q : Option Value → am_H → Prop} : am_Wp d 218 12 [.ref 205, .int x1, .int x2, .int x3] [.int s0] (hp nS M) Q = if ¬ s0 = 0 then am_Wp d 218 17 [.ref 205, .int x1, .int x2, .int x3] [] (hp nS M) Q else am_Wp d 218 15 [.ref 205, .int x1, .int x2, .int x3] [] (hp nS M) Q := by
  exact eq_if_ne (by with_unfolding_all rfl)
set_option maxRecDepth 20000 in
theorem b_218_15 {d nS : Nat} {x1 x2 x3 : Int32} {M : am_M} {Q : Option Value → am_H → Prop} : am_Wp d 218 15 [.ref 205, .int x1, .int x2, .int x3] [] (hp nS M) Q = Q (some (.int 0)) (hp nS M) := by
  refine (eq_run 1 (q := (16, [.ref 205, .int x1, .int x2, .int x3], [.int 0], hp nS M)) (by with_unfolding_all rfl)).trans ?_
  exact eq_retI2 (e := (.ireturn, 1, 0, 0, 0)) (t := .boolean) (by with_unfolding_all rfl) rfl (by with_unfolding_all rfl) rfl
set_option maxRecDepth 20000 in
theorem b_218_17 {d nS : Nat} {x1 x2 x3 : Int32} {M : am_M} {Q : Option Value → am_H → Prop} : am_Wp (d + 1) 218 17 [.ref 205, .int x1, .int x2, .int x3] [] (hp nS M) Q = am_Wp d 223 0 [.ref 205, .retAddr 0] [] (hp nS M) (fun v h1 => am_Wp (d + 1) 218 21 [.ref 205, .int x1, .int x2, .int x3] (am_ans v []) h1 Q) := by
  refine (eq_run 1 (q := (18, [.ref 205, .int x1, .int x2, .int x3], [.ref 205], hp nS M)) (by with_unfolding_all rfl)).trans ?_
  exact eq_call2 (e := (.invokevirtual 355, 3, 0, 223, 327)) (as := [.ref 205]) (r := []) (n := 1) (m := 2) (by with_unfolding_all rfl) rfl (by decide) (by with_unfolding_all rfl) (by decide) (by with_unfolding_all rfl) ⟨fun _ => am_rec_ok (c := 14) (by with_unfolding_all rfl) (by decide +kernel), fun z => by simp at z⟩
set_option maxRecDepth 20000 in
theorem b_218_21 {d nS : Nat} {x1 x2 x3 : Int32} {M : am_M} {Q : Option Value → am_H → Prop} : am_Wp d 218 21 [.ref 205, .int x1, .int x2, .int x3] [] (hp nS M) Q = if 2 ≤ x1 then am_Wp d 218 41 [.ref 205, .int x1, .int x2, .int x3] [] (hp nS M) Q else am_Wp d 218 26 [.ref 205, .int x1, .int x2, .int x3] [] (hp nS M) Q := by
  refine (eq_run 2 (q := (23, [.ref 205, .int x1, .int x2, .int x3], [.int 2, .int x1], hp nS M)) (by with_unfolding_all rfl)).trans ?_
  exact eq_cmp_ge (by with_unfolding_all rfl)
set_option maxRecDepth 20000 in
theorem b_218_26 {d nS : Nat} {x1 x2 x3 : Int32} {M : am_M} {Q : Option Value → am_H → Prop} : am_Wp d 218 26 [.ref 205, .int x1, .int x2, .int x3] [] (hp nS M) Q = if ¬ x1 = 0 then am_Wp d 218 37 [.ref 205, .int x1, .int x2, .int x3] [.int x3, .int x2, .ref 205] (hp nS M) Q else am_Wp d 218 33 [.ref 205, .int x1, .int x2, .int x3] [.int x3, .int x2, .ref 205] (hp nS M) Q := by
  refine (eq_run 4 (q := (30, [.ref 205, .int x1, .int x2, .int x3], [.int x1, .int x3, .int x2, .ref 205], hp nS M)) (by with_unfolding_all rfl)).trans ?_
  exact eq_if_ne (by with_unfolding_all rfl)
set_option maxRecDepth 20000 in
theorem b_218_33 {d nS : Nat} {x1 x2 x3 s1 s2 : Int32} {M : am_M} {Q : Option Value → am_H → Prop} : am_Wp d 218 33 [.ref 205, .int x1, .int x2, .int x3] [.int s2, .int s1, .ref 205] (hp nS M) Q = am_Wp d 218 38 [.ref 205, .int x1, .int x2, .int x3] [.int 1, .int s2, .int s1, .ref 205] (hp nS M) Q := by
  exact eq_run 2 (q := (38, [.ref 205, .int x1, .int x2, .int x3], [.int 1, .int s2, .int s1, .ref 205], hp nS M)) (by with_unfolding_all rfl)
set_option maxRecDepth 20000 in
theorem b_218_37 {d nS : Nat} {x1 x2 x3 s1 s2 : Int32} {M : am_M} {Q : Option Value → am_H → Prop} : am_Wp d 218 37 [.ref 205, .int x1, .int x2, .int x3] [.int s2, .int s1, .ref 205] (hp nS M) Q = am_Wp d 218 38 [.ref 205, .int x1, .int x2, .int x3] [.int (-1), .int s2, .int s1, .ref 205] (hp nS M) Q := by
  exact eq_run 1 (q := (38, [.ref 205, .int x1, .int x2, .int x3], [.int (-1), .int s2, .int s1, .ref 205], hp nS M)) (by with_unfolding_all rfl)
set_option maxRecDepth 20000 in
theorem b_218_38 {d nS : Nat} {x1 x2 x3 s1 s2 s3 : Int32} {M : am_M} {Q : Option Value → am_H → Prop} : am_Wp (d + 1) 218 38 [.ref 205, .int x1, .int x2, .int x3] [.int s3, .int s2, .int s1, .ref 205] (hp nS M) Q = am_Wp d 224 0 [.ref 205, .int s1, .int s2, .int s3, .retAddr 0, .retAddr 0, .retAddr 0] [] (hp nS M) (fun v h1 => am_Wp (d + 1) 218 41 [.ref 205, .int x1, .int x2, .int x3] (am_ans v []) h1 Q) := by
  exact eq_call2 (e := (.invokevirtual 358, 3, 0, 224, 328)) (as := [.ref 205, .int s1, .int s2, .int s3]) (r := []) (n := 4) (m := 7) (by with_unfolding_all rfl) rfl (by decide) (by with_unfolding_all rfl) (by decide) (by with_unfolding_all rfl) ⟨fun _ => am_rec_ok (c := 14) (by with_unfolding_all rfl) (by decide +kernel), fun z => by simp at z⟩
set_option maxRecDepth 20000 in
theorem b_218_41 {d nS : Nat} {x1 x2 x3 : Int32} {M : am_M} {Q : Option Value → am_H → Prop} : am_Wp d 218 41 [.ref 205, .int x1, .int x2, .int x3] [] (hp nS M) Q = if ¬ x1 = 2 then am_Wp d 218 66 [.ref 205, .int x1, .int x2, .int x3] [] (hp nS M) Q else am_Wp d 218 46 [.ref 205, .int x1, .int x2, .int x3] [] (hp nS M) Q := by
  refine (eq_run 2 (q := (43, [.ref 205, .int x1, .int x2, .int x3], [.int 2, .int x1], hp nS M)) (by with_unfolding_all rfl)).trans ?_
  exact eq_cmp_ne (by with_unfolding_all rfl)
set_option maxRecDepth 20000 in
theorem b_218_46 {d nS : Nat} {x1 x2 x3 : Int32} {M : am_M} {Q : Option Value → am_H → Prop} (h1 : vp_in (22 + x2) 136) (h2 : vp_in (22 + x2) 136) : am_Wp d 218 46 [.ref 205, .int x1, .int x2, .int x3] [] (hp nS M) Q = am_Wp d 218 66 [.ref 205, .int x1, .int x2, .int x3] [] (hp nS (am_up M 206 (22 + x2).toNatClampNeg ((M 206 (22 + x2).toNatClampNeg) + 1))) Q := by
  refine (eq_run 10 (q := (62, [.ref 205, .int x1, .int x2, .int x3], [.int (22 + x2), .ref 206, .int (22 + x2), .ref 206], hp nS M)) (by with_unfolding_all rfl)).trans ?_
  refine (eq_ald (e := (.iaload, 1, 0, 0, 0)) (by with_unfolding_all rfl) rfl (n := 136) (by with_unfolding_all rfl) h1).trans ?_
  refine (eq_run 2 (q := (65, [.ref 205, .int x1, .int x2, .int x3], [.int ((M 206 (22 + x2).toNatClampNeg) + 1), .int (22 + x2), .ref 206], hp nS M)) (by with_unfolding_all rfl)).trans ?_
  exact eq_ast (e := (.iastore, 1, 0, 0, 0)) (by with_unfolding_all rfl) rfl (n := 136) (by with_unfolding_all rfl) (by decide) h2
set_option maxRecDepth 20000 in
theorem b_218_66 {d nS : Nat} {x1 x2 x3 : Int32} {M : am_M} {Q : Option Value → am_H → Prop} : am_Wp d 218 66 [.ref 205, .int x1, .int x2, .int x3] [] (hp nS M) Q = if ¬ x1 = 3 then am_Wp d 218 76 [.ref 205, .int x1, .int x2, .int x3] [] (hp nS M) Q else am_Wp d 218 71 [.ref 205, .int x1, .int x2, .int x3] [] (hp nS M) Q := by
  refine (eq_run 2 (q := (68, [.ref 205, .int x1, .int x2, .int x3], [.int 3, .int x1], hp nS M)) (by with_unfolding_all rfl)).trans ?_
  exact eq_cmp_ne (by with_unfolding_all rfl)
set_option maxRecDepth 20000 in
theorem b_218_71 {d nS : Nat} {x1 x2 x3 : Int32} {M : am_M} {Q : Option Value → am_H → Prop} : am_Wp (d + 1) 218 71 [.ref 205, .int x1, .int x2, .int x3] [] (hp nS M) Q = am_Wp d 227 0 [.ref 205, .int x2] [] (hp nS M) (fun v h1 => am_Wp (d + 1) 218 76 [.ref 205, .int x1, .int x2, .int x3] (am_ans v []) h1 Q) := by
  refine (eq_run 2 (q := (73, [.ref 205, .int x1, .int x2, .int x3], [.int x2, .ref 205], hp nS M)) (by with_unfolding_all rfl)).trans ?_
  exact eq_call2 (e := (.invokevirtual 361, 3, 0, 227, 329)) (as := [.ref 205, .int x2]) (r := []) (n := 2) (m := 2) (by with_unfolding_all rfl) rfl (by decide) (by with_unfolding_all rfl) (by decide) (by with_unfolding_all rfl) ⟨fun _ => am_rec_ok (c := 14) (by with_unfolding_all rfl) (by decide +kernel), fun z => by simp at z⟩
set_option maxRecDepth 20000 in
theorem b_218_76 {d nS : Nat} {x1 x2 x3 : Int32} {M : am_M} {Q : Option Value → am_H → Prop} : am_Wp d 218 76 [.ref 205, .int x1, .int x2, .int x3] [] (hp nS M) Q = Q (some (.int 1)) (hp nS M) := by
  refine (eq_run 1 (q := (77, [.ref 205, .int x1, .int x2, .int x3], [.int 1], hp nS M)) (by with_unfolding_all rfl)).trans ?_
  exact eq_retI2 (e := (.ireturn, 1, 0, 0, 0)) (t := .boolean) (by with_unfolding_all rfl) rfl (by with_unfolding_all rfl) rfl
-- canAct(III)Z
set_option maxRecDepth 20000 in
theorem b_219_0 {d nS : Nat} {x1 x2 x3 : Int32} {M : am_M} {Q : Option Value → am_H → Prop} : am_Wp d 219 0 [.ref 205, .int x1, .int x2, .int x3] [] (hp nS M) Q = if x1 = 0 then am_Wp d 219 9 [.ref 205, .int x1, .int x2, .int x3] [] (hp nS M) Q else am_Wp d 219 4 [.ref 205, .int x1, .int x2, .int x3] [] (hp nS M) Q := by
  refine (eq_run 1 (q := (1, [.ref 205, .int x1, .int x2, .int x3], [.int x1], hp nS M)) (by with_unfolding_all rfl)).trans ?_
  exact eq_if_eq (by with_unfolding_all rfl)
set_option maxRecDepth 20000 in
theorem b_219_4 {d nS : Nat} {x1 x2 x3 : Int32} {M : am_M} {Q : Option Value → am_H → Prop} : am_Wp d 219 4 [.ref 205, .int x1, .int x2, .int x3] [] (hp nS M) Q = if ¬ x1 = 1 then am_Wp d 219 17 [.ref 205, .int x1, .int x2, .int x3] [] (hp nS M) Q else am_Wp d 219 9 [.ref 205, .int x1, .int x2, .int x3] [] (hp nS M) Q := by
  refine (eq_run 2 (q := (6, [.ref 205, .int x1, .int x2, .int x3], [.int 1, .int x1], hp nS M)) (by with_unfolding_all rfl)).trans ?_
  exact eq_cmp_ne (by with_unfolding_all rfl)
set_option maxRecDepth 20000 in
theorem b_219_9 {d nS : Nat} {x1 x2 x3 : Int32} {M : am_M} {Q : Option Value → am_H → Prop} : am_Wp (d + 1) 219 9 [.ref 205, .int x1, .int x2, .int x3] [] (hp nS M) Q = am_Wp d 220 0 [.ref 205, .int x1, .int x2, .int x3] [] (hp nS M) (fun v h1 => am_Wp (d + 1) 219 16 [.ref 205, .int x1, .int x2, .int x3] (am_ans v []) h1 Q) := by
  refine (eq_run 4 (q := (13, [.ref 205, .int x1, .int x2, .int x3], [.int x3, .int x2, .int x1, .ref 205], hp nS M)) (by with_unfolding_all rfl)).trans ?_
  exact eq_call2 (e := (.invokevirtual 346, 3, 0, 220, 324)) (as := [.ref 205, .int x1, .int x2, .int x3]) (r := []) (n := 4) (m := 4) (by with_unfolding_all rfl) rfl (by decide) (by with_unfolding_all rfl) (by decide) (by with_unfolding_all rfl) ⟨fun _ => am_rec_ok (c := 14) (by with_unfolding_all rfl) (by decide +kernel), fun z => by simp at z⟩
set_option maxRecDepth 20000 in
theorem b_219_16 {d nS : Nat} {x1 x2 x3 s0 : Int32} {M : am_M} {Q : Option Value → am_H → Prop} (h1 : am_rok .boolean s0 = true) : am_Wp d 219 16 [.ref 205, .int x1, .int x2, .int x3] [.int s0] (hp nS M) Q = Q (some (.int s0)) (hp nS M) := by
  exact eq_retI2 (e := (.ireturn, 1, 0, 0, 0)) (t := .boolean) (by with_unfolding_all rfl) rfl (by with_unfolding_all rfl) h1
set_option maxRecDepth 20000 in
theorem b_219_17 {d nS : Nat} {x1 x2 x3 : Int32} {M : am_M} {Q : Option Value → am_H → Prop} : am_Wp d 219 17 [.ref 205, .int x1, .int x2, .int x3] [] (hp nS M) Q = if ¬ x1 = 2 then am_Wp d 219 44 [.ref 205, .int x1, .int x2, .int x3] [] (hp nS M) Q else am_Wp d 219 22 [.ref 205, .int x1, .int x2, .int x3] [] (hp nS M) Q := by
  refine (eq_run 2 (q := (19, [.ref 205, .int x1, .int x2, .int x3], [.int 2, .int x1], hp nS M)) (by with_unfolding_all rfl)).trans ?_
  exact eq_cmp_ne (by with_unfolding_all rfl)
set_option maxRecDepth 20000 in
theorem b_219_22 {d nS : Nat} {x1 x2 x3 : Int32} {M : am_M} {Q : Option Value → am_H → Prop} : am_Wp (d + 1) 219 22 [.ref 205, .int x1, .int x2, .int x3] [] (hp nS M) Q = am_Wp d 177 0 [.ref 205, .int x2] [] (hp nS M) (fun v h1 => am_Wp (d + 1) 219 27 [.ref 205, .int x1, .int x2, .int x3] (am_ans v []) h1 Q) := by
  refine (eq_run 2 (q := (24, [.ref 205, .int x1, .int x2, .int x3], [.int x2, .ref 205], hp nS M)) (by with_unfolding_all rfl)).trans ?_
  exact eq_call2 (e := (.invokevirtual 151, 3, 0, 177, 277)) (as := [.ref 205, .int x2]) (r := []) (n := 2) (m := 2) (by with_unfolding_all rfl) rfl (by decide) (by with_unfolding_all rfl) (by decide) (by with_unfolding_all rfl) ⟨fun _ => am_rec_ok (c := 14) (by with_unfolding_all rfl) (by decide +kernel), fun z => by simp at z⟩
set_option maxRecDepth 20000 in
theorem b_219_27 {d nS : Nat} {x1 x2 x3 s0 : Int32} {M : am_M} {Q : Option Value → am_H → Prop} : am_Wp d 219 27 [.ref 205, .int x1, .int x2, .int x3] [.int s0] (hp nS M) Q = if s0 = 0 then am_Wp d 219 44 [.ref 205, .int x1, .int x2, .int x3] [] (hp nS M) Q else am_Wp d 219 30 [.ref 205, .int x1, .int x2, .int x3] [] (hp nS M) Q := by
  exact eq_if_eq (by with_unfolding_all rfl)
set_option maxRecDepth 20000 in
theorem b_219_30 {d nS : Nat} {x1 x2 x3 : Int32} {M : am_M} {Q : Option Value → am_H → Prop} (h1 : vp_in (22 + x2) 136) : am_Wp d 219 30 [.ref 205, .int x1, .int x2, .int x3] [] (hp nS M) Q = if (M 206 (22 + x2).toNatClampNeg) < 9 then am_Wp d 219 65 [.ref 205, .int x1, .int x2, .int x3] [] (hp nS M) Q else am_Wp d 219 44 [.ref 205, .int x1, .int x2, .int x3] [] (hp nS M) Q := by
  refine (eq_run 5 (q := (38, [.ref 205, .int x1, .int x2, .int x3], [.int (22 + x2), .ref 206], hp nS M)) (by with_unfolding_all rfl)).trans ?_
  refine (eq_ald (e := (.iaload, 1, 0, 0, 0)) (by with_unfolding_all rfl) rfl (n := 136) (by with_unfolding_all rfl) h1).trans ?_
  refine (eq_run 1 (q := (41, [.ref 205, .int x1, .int x2, .int x3], [.int 9, .int (M 206 (22 + x2).toNatClampNeg)], hp nS M)) (by with_unfolding_all rfl)).trans ?_
  exact eq_cmp_lt (by with_unfolding_all rfl)
set_option maxRecDepth 20000 in
theorem b_219_44 {d nS : Nat} {x1 x2 x3 : Int32} {M : am_M} {Q : Option Value → am_H → Prop} : am_Wp d 219 44 [.ref 205, .int x1, .int x2, .int x3] [] (hp nS M) Q = if ¬ x1 = 3 then am_Wp d 219 69 [.ref 205, .int x1, .int x2, .int x3] [] (hp nS M) Q else am_Wp d 219 49 [.ref 205, .int x1, .int x2, .int x3] [] (hp nS M) Q := by
  refine (eq_run 2 (q := (46, [.ref 205, .int x1, .int x2, .int x3], [.int 3, .int x1], hp nS M)) (by with_unfolding_all rfl)).trans ?_
  exact eq_cmp_ne (by with_unfolding_all rfl)
set_option maxRecDepth 20000 in
theorem b_219_49 {d nS : Nat} {x1 x2 x3 : Int32} {M : am_M} {Q : Option Value → am_H → Prop} : am_Wp (d + 1) 219 49 [.ref 205, .int x1, .int x2, .int x3] [] (hp nS M) Q = am_Wp d 177 0 [.ref 205, .int x2] [] (hp nS M) (fun v h1 => am_Wp (d + 1) 219 54 [.ref 205, .int x1, .int x2, .int x3] (am_ans v []) h1 Q) := by
  refine (eq_run 2 (q := (51, [.ref 205, .int x1, .int x2, .int x3], [.int x2, .ref 205], hp nS M)) (by with_unfolding_all rfl)).trans ?_
  exact eq_call2 (e := (.invokevirtual 151, 3, 0, 177, 277)) (as := [.ref 205, .int x2]) (r := []) (n := 2) (m := 2) (by with_unfolding_all rfl) rfl (by decide) (by with_unfolding_all rfl) (by decide) (by with_unfolding_all rfl) ⟨fun _ => am_rec_ok (c := 14) (by with_unfolding_all rfl) (by decide +kernel), fun z => by simp at z⟩
set_option maxRecDepth 20000 in
theorem b_219_54 {d nS : Nat} {x1 x2 x3 s0 : Int32} {M : am_M} {Q : Option Value → am_H → Prop} : am_Wp d 219 54 [.ref 205, .int x1, .int x2, .int x3] [.int s0] (hp nS M) Q = if s0 = 0 then am_Wp d 219 69 [.ref 205, .int x1, .int x2, .int x3] [] (hp nS M) Q else am_Wp d 219 57 [.ref 205, .int x1, .int x2, .int x3] [] (hp nS M) Q := by
  exact eq_if_eq (by with_unfolding_all rfl)
set_option maxRecDepth 20000 in
theorem b_219_57 {d nS : Nat} {x1 x2 x3 : Int32} {M : am_M} {Q : Option Value → am_H → Prop} : am_Wp (d + 1) 219 57 [.ref 205, .int x1, .int x2, .int x3] [] (hp nS M) Q = am_Wp d 222 0 [.ref 205, .int x2] [] (hp nS M) (fun v h1 => am_Wp (d + 1) 219 62 [.ref 205, .int x1, .int x2, .int x3] (am_ans v []) h1 Q) := by
  refine (eq_run 2 (q := (59, [.ref 205, .int x1, .int x2, .int x3], [.int x2, .ref 205], hp nS M)) (by with_unfolding_all rfl)).trans ?_
  exact eq_call2 (e := (.invokevirtual 349, 3, 0, 222, 325)) (as := [.ref 205, .int x2]) (r := []) (n := 2) (m := 2) (by with_unfolding_all rfl) rfl (by decide) (by with_unfolding_all rfl) (by decide) (by with_unfolding_all rfl) ⟨fun _ => am_rec_ok (c := 14) (by with_unfolding_all rfl) (by decide +kernel), fun z => by simp at z⟩
set_option maxRecDepth 20000 in
theorem b_219_62 {d nS : Nat} {x1 x2 x3 s0 : Int32} {M : am_M} {Q : Option Value → am_H → Prop} : am_Wp d 219 62 [.ref 205, .int x1, .int x2, .int x3] [.int s0] (hp nS M) Q = if s0 = 0 then am_Wp d 219 69 [.ref 205, .int x1, .int x2, .int x3] [] (hp nS M) Q else am_Wp d 219 65 [.ref 205, .int x1, .int x2, .int x3] [] (hp nS M) Q := by
  exact eq_if_eq (by with_unfolding_all rfl)
set_option maxRecDepth 20000 in
theorem b_219_65 {d nS : Nat} {x1 x2 x3 : Int32} {M : am_M} {Q : Option Value → am_H → Prop} : am_Wp d 219 65 [.ref 205, .int x1, .int x2, .int x3] [] (hp nS M) Q = am_Wp d 219 70 [.ref 205, .int x1, .int x2, .int x3] [.int 1] (hp nS M) Q := by
  exact eq_run 2 (q := (70, [.ref 205, .int x1, .int x2, .int x3], [.int 1], hp nS M)) (by with_unfolding_all rfl)
set_option maxRecDepth 20000 in
theorem b_219_69 {d nS : Nat} {x1 x2 x3 : Int32} {M : am_M} {Q : Option Value → am_H → Prop} : am_Wp d 219 69 [.ref 205, .int x1, .int x2, .int x3] [] (hp nS M) Q = am_Wp d 219 70 [.ref 205, .int x1, .int x2, .int x3] [.int 0] (hp nS M) Q := by
  exact eq_run 1 (q := (70, [.ref 205, .int x1, .int x2, .int x3], [.int 0], hp nS M)) (by with_unfolding_all rfl)
set_option maxRecDepth 20000 in
theorem b_219_70 {d nS : Nat} {x1 x2 x3 s0 : Int32} {M : am_M} {Q : Option Value → am_H → Prop} (h1 : am_rok .boolean s0 = true) : am_Wp d 219 70 [.ref 205, .int x1, .int x2, .int x3] [.int s0] (hp nS M) Q = Q (some (.int s0)) (hp nS M) := by
  exact eq_retI2 (e := (.ireturn, 1, 0, 0, 0)) (t := .boolean) (by with_unfolding_all rfl) rfl (by with_unfolding_all rfl) h1
-- canTrade(III)Z
set_option maxRecDepth 20000 in
theorem b_220_0 {d nS : Nat} {x1 x2 x3 : Int32} {M : am_M} {Q : Option Value → am_H → Prop} : am_Wp (d + 1) 220 0 [.ref 205, .int x1, .int x2, .int x3] [] (hp nS M) Q = am_Wp d 179 0 [.ref 205, .int x2] [] (hp nS M) (fun v h1 => am_Wp (d + 1) 220 5 [.ref 205, .int x1, .int x2, .int x3] (am_ans v []) h1 Q) := by
  refine (eq_run 2 (q := (2, [.ref 205, .int x1, .int x2, .int x3], [.int x2, .ref 205], hp nS M)) (by with_unfolding_all rfl)).trans ?_
  exact eq_call2 (e := (.invokevirtual 158, 3, 0, 179, 279)) (as := [.ref 205, .int x2]) (r := []) (n := 2) (m := 2) (by with_unfolding_all rfl) rfl (by decide) (by with_unfolding_all rfl) (by decide) (by with_unfolding_all rfl) ⟨fun _ => am_rec_ok (c := 14) (by with_unfolding_all rfl) (by decide +kernel), fun z => by simp at z⟩
set_option maxRecDepth 20000 in
theorem b_220_5 {d nS : Nat} {x1 x2 x3 s0 : Int32} {M : am_M} {Q : Option Value → am_H → Prop} : am_Wp d 220 5 [.ref 205, .int x1, .int x2, .int x3] [.int s0] (hp nS M) Q = if s0 = 0 then am_Wp d 220 24 [.ref 205, .int x1, .int x2, .int x3] [] (hp nS M) Q else am_Wp d 220 8 [.ref 205, .int x1, .int x2, .int x3] [] (hp nS M) Q := by
  exact eq_if_eq (by with_unfolding_all rfl)
set_option maxRecDepth 20000 in
theorem b_220_8 {d nS : Nat} {x1 x2 x3 : Int32} {M : am_M} {Q : Option Value → am_H → Prop} : am_Wp (d + 1) 220 8 [.ref 205, .int x1, .int x2, .int x3] [] (hp nS M) Q = am_Wp d 178 0 [.ref 205, .int x3] [] (hp nS M) (fun v h1 => am_Wp (d + 1) 220 13 [.ref 205, .int x1, .int x2, .int x3] (am_ans v []) h1 Q) := by
  refine (eq_run 2 (q := (10, [.ref 205, .int x1, .int x2, .int x3], [.int x3, .ref 205], hp nS M)) (by with_unfolding_all rfl)).trans ?_
  exact eq_call2 (e := (.invokevirtual 155, 3, 0, 178, 278)) (as := [.ref 205, .int x3]) (r := []) (n := 2) (m := 2) (by with_unfolding_all rfl) rfl (by decide) (by with_unfolding_all rfl) (by decide) (by with_unfolding_all rfl) ⟨fun _ => am_rec_ok (c := 14) (by with_unfolding_all rfl) (by decide +kernel), fun z => by simp at z⟩
set_option maxRecDepth 20000 in
theorem b_220_13 {d nS : Nat} {x1 x2 x3 s0 : Int32} {M : am_M} {Q : Option Value → am_H → Prop} : am_Wp d 220 13 [.ref 205, .int x1, .int x2, .int x3] [.int s0] (hp nS M) Q = if s0 = 0 then am_Wp d 220 24 [.ref 205, .int x1, .int x2, .int x3] [] (hp nS M) Q else am_Wp d 220 16 [.ref 205, .int x1, .int x2, .int x3] [] (hp nS M) Q := by
  exact eq_if_eq (by with_unfolding_all rfl)
set_option maxRecDepth 20000 in
theorem b_220_16 {d nS : Nat} {x1 x2 x3 : Int32} {M : am_M} {Q : Option Value → am_H → Prop} : am_Wp (d + 1) 220 16 [.ref 205, .int x1, .int x2, .int x3] [] (hp nS M) Q = am_Wp d 221 0 [.ref 205, .int x2] [] (hp nS M) (fun v h1 => am_Wp (d + 1) 220 21 [.ref 205, .int x1, .int x2, .int x3] (am_ans v []) h1 Q) := by
  refine (eq_run 2 (q := (18, [.ref 205, .int x1, .int x2, .int x3], [.int x2, .ref 205], hp nS M)) (by with_unfolding_all rfl)).trans ?_
  exact eq_call2 (e := (.invokevirtual 343, 3, 0, 221, 323)) (as := [.ref 205, .int x2]) (r := []) (n := 2) (m := 2) (by with_unfolding_all rfl) rfl (by decide) (by with_unfolding_all rfl) (by decide) (by with_unfolding_all rfl) ⟨fun _ => am_rec_ok (c := 14) (by with_unfolding_all rfl) (by decide +kernel), fun z => by simp at z⟩
set_option maxRecDepth 20000 in
theorem b_220_21 {d nS : Nat} {x1 x2 x3 s0 : Int32} {M : am_M} {Q : Option Value → am_H → Prop} : am_Wp d 220 21 [.ref 205, .int x1, .int x2, .int x3] [.int s0] (hp nS M) Q = if s0 = 0 then am_Wp d 220 26 [.ref 205, .int x1, .int x2, .int x3] [] (hp nS M) Q else am_Wp d 220 24 [.ref 205, .int x1, .int x2, .int x3] [] (hp nS M) Q := by
  exact eq_if_eq (by with_unfolding_all rfl)
set_option maxRecDepth 20000 in
theorem b_220_24 {d nS : Nat} {x1 x2 x3 : Int32} {M : am_M} {Q : Option Value → am_H → Prop} : am_Wp d 220 24 [.ref 205, .int x1, .int x2, .int x3] [] (hp nS M) Q = Q (some (.int 0)) (hp nS M) := by
  refine (eq_run 1 (q := (25, [.ref 205, .int x1, .int x2, .int x3], [.int 0], hp nS M)) (by with_unfolding_all rfl)).trans ?_
  exact eq_retI2 (e := (.ireturn, 1, 0, 0, 0)) (t := .boolean) (by with_unfolding_all rfl) rfl (by with_unfolding_all rfl) rfl
set_option maxRecDepth 20000 in
theorem b_220_26 {d nS : Nat} {x1 x2 x3 : Int32} {M : am_M} {Q : Option Value → am_H → Prop} : am_Wp d 220 26 [.ref 205, .int x1, .int x2, .int x3] [] (hp nS M) Q = if ¬ x1 = 0 then am_Wp d 220 73 [.ref 205, .int x1, .int x2, .int x3] [] (hp nS M) Q else am_Wp d 220 30 [.ref 205, .int x1, .int x2, .int x3] [] (hp nS M) Q := by
  refine (eq_run 1 (q := (27, [.ref 205, .int x1, .int x2, .int x3], [.int x1], hp nS M)) (by with_unfolding_all rfl)).trans ?_
  exact eq_if_ne (by with_unfolding_all rfl)
set_option maxRecDepth 20000 in
theorem b_220_30 {d nS : Nat} {x1 x2 x3 : Int32} {M : am_M} {Q : Option Value → am_H → Prop} (h1 : vp_in (36 + x2) 136) (h2 : vp_in (28 + x3) 136) : am_Wp d 220 30 [.ref 205, .int x1, .int x2, .int x3] [] (hp nS M) Q = if (M 206 (36 + x2).toNatClampNeg) < (M 206 (28 + x3).toNatClampNeg) then am_Wp d 220 71 [.ref 205, .int x1, .int x2, .int x3] [] (hp nS M) Q else am_Wp d 220 51 [.ref 205, .int x1, .int x2, .int x3] [] (hp nS M) Q := by
  refine (eq_run 5 (q := (38, [.ref 205, .int x1, .int x2, .int x3], [.int (36 + x2), .ref 206], hp nS M)) (by with_unfolding_all rfl)).trans ?_
  refine (eq_ald (e := (.iaload, 1, 0, 0, 0)) (by with_unfolding_all rfl) rfl (n := 136) (by with_unfolding_all rfl) h1).trans ?_
  refine (eq_run 5 (q := (47, [.ref 205, .int x1, .int x2, .int x3], [.int (28 + x3), .ref 206, .int (M 206 (36 + x2).toNatClampNeg)], hp nS M)) (by with_unfolding_all rfl)).trans ?_
  refine (eq_ald (e := (.iaload, 1, 0, 0, 0)) (by with_unfolding_all rfl) rfl (n := 136) (by with_unfolding_all rfl) h2).trans ?_
  exact eq_cmp_lt (by with_unfolding_all rfl)
set_option maxRecDepth 20000 in
theorem b_220_51 {d nS : Nat} {x1 x2 x3 : Int32} {M : am_M} {Q : Option Value → am_H → Prop} : am_Wp (d + 1) 220 51 [.ref 205, .int x1, .int x2, .int x3] [] (hp nS M) Q = am_Wp d 173 0 [.ref 205, .int x2, .int x3] [] (hp nS M) (fun v h1 => am_Wp (d + 1) 220 61 [.ref 205, .int x1, .int x2, .int x3] (am_ans v [.ref 206]) h1 Q) := by
  refine (eq_run 5 (q := (58, [.ref 205, .int x1, .int x2, .int x3], [.int x3, .int x2, .ref 205, .ref 206], hp nS M)) (by with_unfolding_all rfl)).trans ?_
  exact eq_call2 (e := (.invokevirtual 148, 3, 0, 173, 276)) (as := [.ref 205, .int x2, .int x3]) (r := [.ref 206]) (n := 3) (m := 3) (by with_unfolding_all rfl) rfl (by decide) (by with_unfolding_all rfl) (by decide) (by with_unfolding_all rfl) ⟨fun _ => am_rec_ok (c := 14) (by with_unfolding_all rfl) (by decide +kernel), fun z => by simp at z⟩
set_option maxRecDepth 20000 in
theorem b_220_61 {d nS : Nat} {x1 x2 x3 s1 : Int32} {M : am_M} {Q : Option Value → am_H → Prop} (h1 : vp_in s1 136) : am_Wp d 220 61 [.ref 205, .int x1, .int x2, .int x3] [.int s1, .ref 206] (hp nS M) Q = if 99 ≤ (M 206 s1.toNatClampNeg) then am_Wp d 220 71 [.ref 205, .int x1, .int x2, .int x3] [] (hp nS M) Q else am_Wp d 220 67 [.ref 205, .int x1, .int x2, .int x3] [] (hp nS M) Q := by
  refine (eq_ald (e := (.iaload, 1, 0, 0, 0)) (by with_unfolding_all rfl) rfl (n := 136) (by with_unfolding_all rfl) h1).trans ?_
  refine (eq_run 1 (q := (64, [.ref 205, .int x1, .int x2, .int x3], [.int 99, .int (M 206 s1.toNatClampNeg)], hp nS M)) (by with_unfolding_all rfl)).trans ?_
  exact eq_cmp_ge (by with_unfolding_all rfl)
set_option maxRecDepth 20000 in
theorem b_220_67 {d nS : Nat} {x1 x2 x3 : Int32} {M : am_M} {Q : Option Value → am_H → Prop} : am_Wp d 220 67 [.ref 205, .int x1, .int x2, .int x3] [] (hp nS M) Q = am_Wp d 220 72 [.ref 205, .int x1, .int x2, .int x3] [.int 1] (hp nS M) Q := by
  exact eq_run 2 (q := (72, [.ref 205, .int x1, .int x2, .int x3], [.int 1], hp nS M)) (by with_unfolding_all rfl)
set_option maxRecDepth 20000 in
theorem b_220_71 {d nS : Nat} {x1 x2 x3 : Int32} {M : am_M} {Q : Option Value → am_H → Prop} : am_Wp d 220 71 [.ref 205, .int x1, .int x2, .int x3] [] (hp nS M) Q = am_Wp d 220 72 [.ref 205, .int x1, .int x2, .int x3] [.int 0] (hp nS M) Q := by
  exact eq_run 1 (q := (72, [.ref 205, .int x1, .int x2, .int x3], [.int 0], hp nS M)) (by with_unfolding_all rfl)
set_option maxRecDepth 20000 in
theorem b_220_72 {d nS : Nat} {x1 x2 x3 s0 : Int32} {M : am_M} {Q : Option Value → am_H → Prop} (h1 : am_rok .boolean s0 = true) : am_Wp d 220 72 [.ref 205, .int x1, .int x2, .int x3] [.int s0] (hp nS M) Q = Q (some (.int s0)) (hp nS M) := by
  exact eq_retI2 (e := (.ireturn, 1, 0, 0, 0)) (t := .boolean) (by with_unfolding_all rfl) rfl (by with_unfolding_all rfl) h1
set_option maxRecDepth 20000 in
theorem b_220_73 {d nS : Nat} {x1 x2 x3 : Int32} {M : am_M} {Q : Option Value → am_H → Prop} : am_Wp (d + 1) 220 73 [.ref 205, .int x1, .int x2, .int x3] [] (hp nS M) Q = am_Wp d 173 0 [.ref 205, .int x2, .int x3] [] (hp nS M) (fun v h1 => am_Wp (d + 1) 220 83 [.ref 205, .int x1, .int x2, .int x3] (am_ans v [.ref 206]) h1 Q) := by
  refine (eq_run 5 (q := (80, [.ref 205, .int x1, .int x2, .int x3], [.int x3, .int x2, .ref 205, .ref 206], hp nS M)) (by with_unfolding_all rfl)).trans ?_
  exact eq_call2 (e := (.invokevirtual 148, 3, 0, 173, 276)) (as := [.ref 205, .int x2, .int x3]) (r := [.ref 206]) (n := 3) (m := 3) (by with_unfolding_all rfl) rfl (by decide) (by with_unfolding_all rfl) (by decide) (by with_unfolding_all rfl) ⟨fun _ => am_rec_ok (c := 14) (by with_unfolding_all rfl) (by decide +kernel), fun z => by simp at z⟩
set_option maxRecDepth 20000 in
theorem b_220_83 {d nS : Nat} {x1 x2 x3 s1 : Int32} {M : am_M} {Q : Option Value → am_H → Prop} (h1 : vp_in s1 136) : am_Wp d 220 83 [.ref 205, .int x1, .int x2, .int x3] [.int s1, .ref 206] (hp nS M) Q = if (M 206 s1.toNatClampNeg) ≤ 0 then am_Wp d 220 91 [.ref 205, .int x1, .int x2, .int x3] [] (hp nS M) Q else am_Wp d 220 87 [.ref 205, .int x1, .int x2, .int x3] [] (hp nS M) Q := by
  refine (eq_ald (e := (.iaload, 1, 0, 0, 0)) (by with_unfolding_all rfl) rfl (n := 136) (by with_unfolding_all rfl) h1).trans ?_
  exact eq_if_le (by with_unfolding_all rfl)
set_option maxRecDepth 20000 in
theorem b_220_87 {d nS : Nat} {x1 x2 x3 : Int32} {M : am_M} {Q : Option Value → am_H → Prop} : am_Wp d 220 87 [.ref 205, .int x1, .int x2, .int x3] [] (hp nS M) Q = am_Wp d 220 92 [.ref 205, .int x1, .int x2, .int x3] [.int 1] (hp nS M) Q := by
  exact eq_run 2 (q := (92, [.ref 205, .int x1, .int x2, .int x3], [.int 1], hp nS M)) (by with_unfolding_all rfl)
set_option maxRecDepth 20000 in
theorem b_220_91 {d nS : Nat} {x1 x2 x3 : Int32} {M : am_M} {Q : Option Value → am_H → Prop} : am_Wp d 220 91 [.ref 205, .int x1, .int x2, .int x3] [] (hp nS M) Q = am_Wp d 220 92 [.ref 205, .int x1, .int x2, .int x3] [.int 0] (hp nS M) Q := by
  exact eq_run 1 (q := (92, [.ref 205, .int x1, .int x2, .int x3], [.int 0], hp nS M)) (by with_unfolding_all rfl)
set_option maxRecDepth 20000 in
theorem b_220_92 {d nS : Nat} {x1 x2 x3 s0 : Int32} {M : am_M} {Q : Option Value → am_H → Prop} (h1 : am_rok .boolean s0 = true) : am_Wp d 220 92 [.ref 205, .int x1, .int x2, .int x3] [.int s0] (hp nS M) Q = Q (some (.int s0)) (hp nS M) := by
  exact eq_retI2 (e := (.ireturn, 1, 0, 0, 0)) (t := .boolean) (by with_unfolding_all rfl) rfl (by with_unfolding_all rfl) h1
-- isRuined(I)Z
set_option maxRecDepth 20000 in
theorem b_221_0 {d nS : Nat} {x1 : Int32} {M : am_M} {Q : Option Value → am_H → Prop} (h1 : vp_in (46 + x1) 136) : am_Wp d 221 0 [.ref 205, .int x1] [] (hp nS M) Q = if ¬ (M 206 (46 + x1).toNatClampNeg) = 1 then am_Wp d 221 17 [.ref 205, .int x1] [] (hp nS M) Q else am_Wp d 221 13 [.ref 205, .int x1] [] (hp nS M) Q := by
  refine (eq_run 5 (q := (8, [.ref 205, .int x1], [.int (46 + x1), .ref 206], hp nS M)) (by with_unfolding_all rfl)).trans ?_
  refine (eq_ald (e := (.iaload, 1, 0, 0, 0)) (by with_unfolding_all rfl) rfl (n := 136) (by with_unfolding_all rfl) h1).trans ?_
  refine (eq_run 1 (q := (10, [.ref 205, .int x1], [.int 1, .int (M 206 (46 + x1).toNatClampNeg)], hp nS M)) (by with_unfolding_all rfl)).trans ?_
  exact eq_cmp_ne (by with_unfolding_all rfl)
set_option maxRecDepth 20000 in
theorem b_221_13 {d nS : Nat} {x1 : Int32} {M : am_M} {Q : Option Value → am_H → Prop} : am_Wp d 221 13 [.ref 205, .int x1] [] (hp nS M) Q = am_Wp d 221 18 [.ref 205, .int x1] [.int 1] (hp nS M) Q := by
  exact eq_run 2 (q := (18, [.ref 205, .int x1], [.int 1], hp nS M)) (by with_unfolding_all rfl)
set_option maxRecDepth 20000 in
theorem b_221_17 {d nS : Nat} {x1 : Int32} {M : am_M} {Q : Option Value → am_H → Prop} : am_Wp d 221 17 [.ref 205, .int x1] [] (hp nS M) Q = am_Wp d 221 18 [.ref 205, .int x1] [.int 0] (hp nS M) Q := by
  exact eq_run 1 (q := (18, [.ref 205, .int x1], [.int 0], hp nS M)) (by with_unfolding_all rfl)
set_option maxRecDepth 20000 in
theorem b_221_18 {d nS : Nat} {x1 s0 : Int32} {M : am_M} {Q : Option Value → am_H → Prop} (h1 : am_rok .boolean s0 = true) : am_Wp d 221 18 [.ref 205, .int x1] [.int s0] (hp nS M) Q = Q (some (.int s0)) (hp nS M) := by
  exact eq_retI2 (e := (.ireturn, 1, 0, 0, 0)) (t := .boolean) (by with_unfolding_all rfl) rfl (by with_unfolding_all rfl) h1
-- isLost(I)Z
set_option maxRecDepth 20000 in
theorem b_222_0 {d nS : Nat} {x1 : Int32} {M : am_M} {Q : Option Value → am_H → Prop} (h1 : vp_in (16 + x1) 136) : am_Wp d 222 0 [.ref 205, .int x1] [] (hp nS M) Q = if ¬ (M 206 (16 + x1).toNatClampNeg) = 1 then am_Wp d 222 17 [.ref 205, .int x1] [] (hp nS M) Q else am_Wp d 222 13 [.ref 205, .int x1] [] (hp nS M) Q := by
  refine (eq_run 5 (q := (8, [.ref 205, .int x1], [.int (16 + x1), .ref 206], hp nS M)) (by with_unfolding_all rfl)).trans ?_
  refine (eq_ald (e := (.iaload, 1, 0, 0, 0)) (by with_unfolding_all rfl) rfl (n := 136) (by with_unfolding_all rfl) h1).trans ?_
  refine (eq_run 1 (q := (10, [.ref 205, .int x1], [.int 1, .int (M 206 (16 + x1).toNatClampNeg)], hp nS M)) (by with_unfolding_all rfl)).trans ?_
  exact eq_cmp_ne (by with_unfolding_all rfl)
set_option maxRecDepth 20000 in
theorem b_222_13 {d nS : Nat} {x1 : Int32} {M : am_M} {Q : Option Value → am_H → Prop} : am_Wp d 222 13 [.ref 205, .int x1] [] (hp nS M) Q = am_Wp d 222 18 [.ref 205, .int x1] [.int 1] (hp nS M) Q := by
  exact eq_run 2 (q := (18, [.ref 205, .int x1], [.int 1], hp nS M)) (by with_unfolding_all rfl)
set_option maxRecDepth 20000 in
theorem b_222_17 {d nS : Nat} {x1 : Int32} {M : am_M} {Q : Option Value → am_H → Prop} : am_Wp d 222 17 [.ref 205, .int x1] [] (hp nS M) Q = am_Wp d 222 18 [.ref 205, .int x1] [.int 0] (hp nS M) Q := by
  exact eq_run 1 (q := (18, [.ref 205, .int x1], [.int 0], hp nS M)) (by with_unfolding_all rfl)
set_option maxRecDepth 20000 in
theorem b_222_18 {d nS : Nat} {x1 s0 : Int32} {M : am_M} {Q : Option Value → am_H → Prop} (h1 : am_rok .boolean s0 = true) : am_Wp d 222 18 [.ref 205, .int x1] [.int s0] (hp nS M) Q = Q (some (.int s0)) (hp nS M) := by
  exact eq_retI2 (e := (.ireturn, 1, 0, 0, 0)) (t := .boolean) (by with_unfolding_all rfl) rfl (by with_unfolding_all rfl) h1
-- keepsAhead()V
set_option maxRecDepth 20000 in
theorem b_223_0 {d nS : Nat} {M : am_M} {Q : Option Value → am_H → Prop} : am_Wp d 223 0 [.ref 205, .retAddr 0] [] (hp nS M) Q = if ¬ (M 205 5) = 6 then am_Wp d 223 55 [.ref 205, .retAddr 0] [] (hp nS M) Q else am_Wp d 223 9 [.ref 205, .retAddr 0] [] (hp nS M) Q := by
  refine (eq_run 3 (q := (6, [.ref 205, .retAddr 0], [.int 6, .int (M 205 5)], hp nS M)) (by with_unfolding_all rfl)).trans ?_
  exact eq_cmp_ne (by with_unfolding_all rfl)
set_option maxRecDepth 20000 in
theorem b_223_9 {d nS : Nat} {M : am_M} {Q : Option Value → am_H → Prop} : am_Wp d 223 9 [.ref 205, .retAddr 0] [] (hp nS M) Q = am_Wp d 223 21 [.ref 205, .int 0] [] (hp nS (am_up M 205 5 ((M 205 5) - 1))) Q := by
  exact eq_run 8 (q := (21, [.ref 205, .int 0], [], hp nS (am_up M 205 5 ((M 205 5) - 1)))) (by with_unfolding_all rfl)
set_option maxRecDepth 20000 in
theorem b_223_21 {d nS : Nat} {x1 : Int32} {M : am_M} {Q : Option Value → am_H → Prop} : am_Wp d 223 21 [.ref 205, .int x1] [] (hp nS M) Q = if (136 * (M 205 5)) ≤ x1 then am_Wp d 223 55 [.ref 205, .int x1] [] (hp nS M) Q else am_Wp d 223 33 [.ref 205, .int x1] [] (hp nS M) Q := by
  refine (eq_run 5 (q := (30, [.ref 205, .int x1], [.int (136 * (M 205 5)), .int x1], hp nS M)) (by with_unfolding_all rfl)).trans ?_
  exact eq_cmp_ge (by with_unfolding_all rfl)
set_option maxRecDepth 20000 in
theorem b_223_33 {d nS : Nat} {x1 : Int32} {M : am_M} {Q : Option Value → am_H → Prop} (h1 : vp_in (x1 + 136) 816) (h2 : vp_in x1 816) : am_Wp d 223 33 [.ref 205, .int x1] [] (hp nS M) Q = am_Wp d 223 21 [.ref 205, .int (x1 + 1)] [] (hp nS (am_up M 207 x1.toNatClampNeg (M 207 (x1 + 136).toNatClampNeg))) Q := by
  refine (eq_run 8 (q := (47, [.ref 205, .int x1], [.int (x1 + 136), .ref 207, .int x1, .ref 207], hp nS M)) (by with_unfolding_all rfl)).trans ?_
  refine (eq_ald (e := (.iaload, 1, 0, 0, 0)) (by with_unfolding_all rfl) rfl (n := 816) (by with_unfolding_all rfl) h1).trans ?_
  refine (eq_ast (e := (.iastore, 1, 0, 0, 0)) (by with_unfolding_all rfl) rfl (n := 816) (by with_unfolding_all rfl) (by decide) h2).trans ?_
  exact eq_run 2 (q := (21, [.ref 205, .int (x1 + 1)], [], hp nS (am_up M 207 x1.toNatClampNeg (M 207 (x1 + 136).toNatClampNeg)))) (by with_unfolding_all rfl)
set_option maxRecDepth 20000 in
theorem b_223_55 {d nS : Nat} {zx1 : Value} {M : am_M} {Q : Option Value → am_H → Prop} : am_Wp d 223 55 [.ref 205, zx1] [] (hp nS M) Q = am_Wp d 223 57 [.ref 205, .int 0] [] (hp nS M) Q := by
  exact eq_run 2 (q := (57, [.ref 205, .int 0], [], hp nS M)) (by with_unfolding_all rfl)
set_option maxRecDepth 20000 in
theorem b_223_57 {d nS : Nat} {x1 : Int32} {M : am_M} {Q : Option Value → am_H → Prop} : am_Wp d 223 57 [.ref 205, .int x1] [] (hp nS M) Q = if 136 ≤ x1 then am_Wp d 223 91 [.ref 205, .int x1] [] (hp nS M) Q else am_Wp d 223 64 [.ref 205, .int x1] [] (hp nS M) Q := by
  refine (eq_run 2 (q := (61, [.ref 205, .int x1], [.int 136, .int x1], hp nS M)) (by with_unfolding_all rfl)).trans ?_
  exact eq_cmp_ge (by with_unfolding_all rfl)
set_option maxRecDepth 20000 in
theorem b_223_64 {d nS : Nat} {x1 : Int32} {M : am_M} {Q : Option Value → am_H → Prop} (h1 : vp_in x1 136) (h2 : vp_in ((136 * (M 205 5)) + x1) 816) : am_Wp d 223 64 [.ref 205, .int x1] [] (hp nS M) Q = am_Wp d 223 57 [.ref 205, .int (x1 + 1)] [] (hp nS (am_up M 207 ((136 * (M 205 5)) + x1).toNatClampNeg (M 206 x1.toNatClampNeg))) Q := by
  refine (eq_run 11 (q := (83, [.ref 205, .int x1], [.int x1, .ref 206, .int ((136 * (M 205 5)) + x1), .ref 207], hp nS M)) (by with_unfolding_all rfl)).trans ?_
  refine (eq_ald (e := (.iaload, 1, 0, 0, 0)) (by with_unfolding_all rfl) rfl (n := 136) (by with_unfolding_all rfl) h1).trans ?_
  refine (eq_ast (e := (.iastore, 1, 0, 0, 0)) (by with_unfolding_all rfl) rfl (n := 816) (by with_unfolding_all rfl) (by decide) h2).trans ?_
  exact eq_run 2 (q := (57, [.ref 205, .int (x1 + 1)], [], hp nS (am_up M 207 ((136 * (M 205 5)) + x1).toNatClampNeg (M 206 x1.toNatClampNeg)))) (by with_unfolding_all rfl)
set_option maxRecDepth 20000 in
theorem b_223_91 {d nS : Nat} {x1 : Int32} {M : am_M} {Q : Option Value → am_H → Prop} : am_Wp d 223 91 [.ref 205, .int x1] [] (hp nS M) Q = Q none (hp nS (am_up M 205 5 ((M 205 5) + 1))) := by
  refine (eq_run 6 (q := (101, [.ref 205, .int x1], [], hp nS (am_up M 205 5 ((M 205 5) + 1)))) (by with_unfolding_all rfl)).trans ?_
  exact eq_retV2 (e := (.return_, 1, 0, 0, 0)) (by with_unfolding_all rfl) rfl (by with_unfolding_all rfl)
-- isTraded(III)V
set_option maxRecDepth 20000 in
theorem b_224_0 {d nS : Nat} {x1 x2 x3 : Int32} {M : am_M} {Q : Option Value → am_H → Prop} (h1 : vp_in (28 + x2) 136) : am_Wp (d + 1) 224 0 [.ref 205, .int x1, .int x2, .int x3, .retAddr 0, .retAddr 0, .retAddr 0] [] (hp nS M) Q = am_Wp d 173 0 [.ref 205, .int x1, .int x2] [] (hp nS M) (fun v h1 => am_Wp (d + 1) 224 17 [.ref 205, .int x1, .int x2, .int x3, .int (M 206 (28 + x2).toNatClampNeg), .retAddr 0, .retAddr 0] (am_ans v []) h1 Q) := by
  refine (eq_run 5 (q := (8, [.ref 205, .int x1, .int x2, .int x3, .retAddr 0, .retAddr 0, .retAddr 0], [.int (28 + x2), .ref 206], hp nS M)) (by with_unfolding_all rfl)).trans ?_
  refine (eq_ald (e := (.iaload, 1, 0, 0, 0)) (by with_unfolding_all rfl) rfl (n := 136) (by with_unfolding_all rfl) h1).trans ?_
  refine (eq_run 4 (q := (14, [.ref 205, .int x1, .int x2, .int x3, .int (M 206 (28 + x2).toNatClampNeg), .retAddr 0, .retAddr 0], [.int x2, .int x1, .ref 205], hp nS M)) (by with_unfolding_all rfl)).trans ?_
  exact eq_call2 (e := (.invokevirtual 148, 3, 0, 173, 276)) (as := [.ref 205, .int x1, .int x2]) (r := []) (n := 3) (m := 3) (by with_unfolding_all rfl) rfl (by decide) (by with_unfolding_all rfl) (by decide) (by with_unfolding_all rfl) ⟨fun _ => am_rec_ok (c := 14) (by with_unfolding_all rfl) (by decide +kernel), fun z => by simp at z⟩
set_option maxRecDepth 20000 in
theorem b_224_17 {d nS : Nat} {x1 x2 x3 x4 s0 : Int32} {M : am_M} {Q : Option Value → am_H → Prop} : am_Wp d 224 17 [.ref 205, .int x1, .int x2, .int x3, .int x4, .retAddr 0, .retAddr 0] [.int s0] (hp nS M) Q = if x3 ≤ 0 then am_Wp d 224 57 [.ref 205, .int x1, .int x2, .int x3, .int x4, .int s0, .retAddr 0] [] (hp nS M) Q else am_Wp d 224 23 [.ref 205, .int x1, .int x2, .int x3, .int x4, .int s0, .retAddr 0] [] (hp nS M) Q := by
  refine (eq_run 2 (q := (20, [.ref 205, .int x1, .int x2, .int x3, .int x4, .int s0, .retAddr 0], [.int x3], hp nS M)) (by with_unfolding_all rfl)).trans ?_
  exact eq_if_le (by with_unfolding_all rfl)
set_option maxRecDepth 20000 in
theorem b_224_23 {d nS : Nat} {x1 x2 x3 x4 x5 : Int32} {M : am_M} {Q : Option Value → am_H → Prop} (h1 : vp_in (36 + x1) 136) (h2 : ¬ x4 = 0) (h3 : vp_in x5 136) : am_Wp (d + 1) 224 23 [.ref 205, .int x1, .int x2, .int x3, .int x4, .int x5, .retAddr 0] [] (hp nS M) Q = am_Wp d 225 0 [.ref 205, .int ((M 206 (36 + x1).toNatClampNeg) / x4), .int (99 - (M 206 x5.toNatClampNeg))] [] (hp nS M) (fun v h1 => am_Wp (d + 1) 224 51 [.ref 205, .int x1, .int x2, .int x3, .int x4, .int x5, .retAddr 0] (am_ans v [.int x3, .ref 205]) h1 Q) := by
  refine (eq_run 8 (q := (34, [.ref 205, .int x1, .int x2, .int x3, .int x4, .int x5, .retAddr 0], [.int (36 + x1), .ref 206, .ref 205, .int x3, .ref 205], hp nS M)) (by with_unfolding_all rfl)).trans ?_
  refine (eq_ald (e := (.iaload, 1, 0, 0, 0)) (by with_unfolding_all rfl) rfl (n := 136) (by with_unfolding_all rfl) h1).trans ?_
  refine (eq_run 1 (q := (37, [.ref 205, .int x1, .int x2, .int x3, .int x4, .int x5, .retAddr 0], [.int x4, .int (M 206 (36 + x1).toNatClampNeg), .ref 205, .int x3, .ref 205], hp nS M)) (by with_unfolding_all rfl)).trans ?_
  refine (eq_div (e := (.idiv, 1, 0, 0, 0)) (by with_unfolding_all rfl) rfl h2).trans ?_
  refine (eq_run 4 (q := (46, [.ref 205, .int x1, .int x2, .int x3, .int x4, .int x5, .retAddr 0], [.int x5, .ref 206, .int 99, .int ((M 206 (36 + x1).toNatClampNeg) / x4), .ref 205, .int x3, .ref 205], hp nS M)) (by with_unfolding_all rfl)).trans ?_
  refine (eq_ald (e := (.iaload, 1, 0, 0, 0)) (by with_unfolding_all rfl) rfl (n := 136) (by with_unfolding_all rfl) h3).trans ?_
  refine (eq_run 1 (q := (48, [.ref 205, .int x1, .int x2, .int x3, .int x4, .int x5, .retAddr 0], [.int (99 - (M 206 x5.toNatClampNeg)), .int ((M 206 (36 + x1).toNatClampNeg) / x4), .ref 205, .int x3, .ref 205], hp nS M)) (by with_unfolding_all rfl)).trans ?_
  exact eq_call2 (e := (.invokevirtual 336, 3, 0, 225, 321)) (as := [.ref 205, .int ((M 206 (36 + x1).toNatClampNeg) / x4), .int (99 - (M 206 x5.toNatClampNeg))]) (r := [.int x3, .ref 205]) (n := 3) (m := 3) (by with_unfolding_all rfl) rfl (by decide) (by with_unfolding_all rfl) (by decide) (by with_unfolding_all rfl) ⟨fun _ => am_rec_ok (c := 14) (by with_unfolding_all rfl) (by decide +kernel), fun z => by simp at z⟩
set_option maxRecDepth 20000 in
theorem b_224_51 {d nS : Nat} {x1 x2 x3 x4 x5 s1 s2 : Int32} {M : am_M} {Q : Option Value → am_H → Prop} : am_Wp (d + 1) 224 51 [.ref 205, .int x1, .int x2, .int x3, .int x4, .int x5, .retAddr 0] [.int s2, .int s1, .ref 205] (hp nS M) Q = am_Wp d 225 0 [.ref 205, .int s1, .int s2] [] (hp nS M) (fun v h1 => am_Wp (d + 1) 224 54 [.ref 205, .int x1, .int x2, .int x3, .int x4, .int x5, .retAddr 0] (am_ans v []) h1 Q) := by
  exact eq_call2 (e := (.invokevirtual 336, 3, 0, 225, 321)) (as := [.ref 205, .int s1, .int s2]) (r := []) (n := 3) (m := 3) (by with_unfolding_all rfl) rfl (by decide) (by with_unfolding_all rfl) (by decide) (by with_unfolding_all rfl) ⟨fun _ => am_rec_ok (c := 14) (by with_unfolding_all rfl) (by decide +kernel), fun z => by simp at z⟩
set_option maxRecDepth 20000 in
theorem b_224_54 {d nS : Nat} {x1 x2 x3 x4 x5 s0 : Int32} {M : am_M} {Q : Option Value → am_H → Prop} : am_Wp d 224 54 [.ref 205, .int x1, .int x2, .int x3, .int x4, .int x5, .retAddr 0] [.int s0] (hp nS M) Q = am_Wp d 224 70 [.ref 205, .int x1, .int x2, .int x3, .int x4, .int x5, .retAddr 0] [.int s0] (hp nS M) Q := by
  exact eq_run 1 (q := (70, [.ref 205, .int x1, .int x2, .int x3, .int x4, .int x5, .retAddr 0], [.int s0], hp nS M)) (by with_unfolding_all rfl)
set_option maxRecDepth 20000 in
theorem b_224_57 {d nS : Nat} {x1 x2 x3 x4 x5 : Int32} {M : am_M} {Q : Option Value → am_H → Prop} (h1 : vp_in x5 136) : am_Wp (d + 1) 224 57 [.ref 205, .int x1, .int x2, .int x3, .int x4, .int x5, .retAddr 0] [] (hp nS M) Q = am_Wp d 225 0 [.ref 205, .int (-x3), .int (M 206 x5.toNatClampNeg)] [] (hp nS M) (fun v h1 => am_Wp (d + 1) 224 70 [.ref 205, .int x1, .int x2, .int x3, .int x4, .int x5, .retAddr 0] (am_ans v []) h1 Q) := by
  refine (eq_run 6 (q := (66, [.ref 205, .int x1, .int x2, .int x3, .int x4, .int x5, .retAddr 0], [.int x5, .ref 206, .int (-x3), .ref 205], hp nS M)) (by with_unfolding_all rfl)).trans ?_
  refine (eq_ald (e := (.iaload, 1, 0, 0, 0)) (by with_unfolding_all rfl) rfl (n := 136) (by with_unfolding_all rfl) h1).trans ?_
  exact eq_call2 (e := (.invokevirtual 336, 3, 0, 225, 321)) (as := [.ref 205, .int (-x3), .int (M 206 x5.toNatClampNeg)]) (r := []) (n := 3) (m := 3) (by with_unfolding_all rfl) rfl (by decide) (by with_unfolding_all rfl) (by decide) (by with_unfolding_all rfl) ⟨fun _ => am_rec_ok (c := 14) (by with_unfolding_all rfl) (by decide +kernel), fun z => by simp at z⟩
set_option maxRecDepth 20000 in
theorem b_224_70 {d nS : Nat} {x1 x2 x3 x4 x5 s0 : Int32} {M : am_M} {Q : Option Value → am_H → Prop} : am_Wp d 224 70 [.ref 205, .int x1, .int x2, .int x3, .int x4, .int x5, .retAddr 0] [.int s0] (hp nS M) Q = if ¬ s0 = 0 then am_Wp d 224 78 [.ref 205, .int x1, .int x2, .int x3, .int x4, .int x5, .int s0] [] (hp nS M) Q else am_Wp d 224 77 [.ref 205, .int x1, .int x2, .int x3, .int x4, .int x5, .int s0] [] (hp nS M) Q := by
  refine (eq_run 2 (q := (74, [.ref 205, .int x1, .int x2, .int x3, .int x4, .int x5, .int s0], [.int s0], hp nS M)) (by with_unfolding_all rfl)).trans ?_
  exact eq_if_ne (by with_unfolding_all rfl)
set_option maxRecDepth 20000 in
theorem b_224_77 {d nS : Nat} {x1 x2 x3 x4 x5 x6 : Int32} {M : am_M} {Q : Option Value → am_H → Prop} : am_Wp d 224 77 [.ref 205, .int x1, .int x2, .int x3, .int x4, .int x5, .int x6] [] (hp nS M) Q = Q none (hp nS M) := by
  exact eq_retV2 (e := (.return_, 1, 0, 0, 0)) (by with_unfolding_all rfl) rfl (by with_unfolding_all rfl)
set_option maxRecDepth 20000 in
theorem b_224_78 {d nS : Nat} {x1 x2 x3 x4 x5 x6 : Int32} {M : am_M} {Q : Option Value → am_H → Prop} (h1 : vp_in (36 + x1) 136) : am_Wp d 224 78 [.ref 205, .int x1, .int x2, .int x3, .int x4, .int x5, .int x6] [] (hp nS M) Q = if x3 ≤ 0 then am_Wp d 224 105 [.ref 205, .int x1, .int x2, .int x3, .int x4, .int x5, .int x6] [.int (M 206 (36 + x1).toNatClampNeg), .int (36 + x1), .ref 206] (hp nS M) Q else am_Wp d 224 99 [.ref 205, .int x1, .int x2, .int x3, .int x4, .int x5, .int x6] [.int (M 206 (36 + x1).toNatClampNeg), .int (36 + x1), .ref 206] (hp nS M) Q := by
  refine (eq_run 10 (q := (94, [.ref 205, .int x1, .int x2, .int x3, .int x4, .int x5, .int x6], [.int (36 + x1), .ref 206, .int (36 + x1), .ref 206], hp nS M)) (by with_unfolding_all rfl)).trans ?_
  refine (eq_ald (e := (.iaload, 1, 0, 0, 0)) (by with_unfolding_all rfl) rfl (n := 136) (by with_unfolding_all rfl) h1).trans ?_
  refine (eq_run 1 (q := (96, [.ref 205, .int x1, .int x2, .int x3, .int x4, .int x5, .int x6], [.int x3, .int (M 206 (36 + x1).toNatClampNeg), .int (36 + x1), .ref 206], hp nS M)) (by with_unfolding_all rfl)).trans ?_
  exact eq_if_le (by with_unfolding_all rfl)
set_option maxRecDepth 20000 in
theorem b_224_99 {d nS : Nat} {x1 x2 x3 x4 x5 x6 s1 s2 : Int32} {M : am_M} {Q : Option Value → am_H → Prop} : am_Wp d 224 99 [.ref 205, .int x1, .int x2, .int x3, .int x4, .int x5, .int x6] [.int s2, .int s1, .ref 206] (hp nS M) Q = am_Wp d 224 107 [.ref 205, .int x1, .int x2, .int x3, .int x4, .int x5, .int x6] [.int (-x6), .int s2, .int s1, .ref 206] (hp nS M) Q := by
  exact eq_run 3 (q := (107, [.ref 205, .int x1, .int x2, .int x3, .int x4, .int x5, .int x6], [.int (-x6), .int s2, .int s1, .ref 206], hp nS M)) (by with_unfolding_all rfl)
set_option maxRecDepth 20000 in
theorem b_224_105 {d nS : Nat} {x1 x2 x3 x4 x5 x6 s1 s2 : Int32} {M : am_M} {Q : Option Value → am_H → Prop} : am_Wp d 224 105 [.ref 205, .int x1, .int x2, .int x3, .int x4, .int x5, .int x6] [.int s2, .int s1, .ref 206] (hp nS M) Q = am_Wp d 224 107 [.ref 205, .int x1, .int x2, .int x3, .int x4, .int x5, .int x6] [.int x6, .int s2, .int s1, .ref 206] (hp nS M) Q := by
  exact eq_run 1 (q := (107, [.ref 205, .int x1, .int x2, .int x3, .int x4, .int x5, .int x6], [.int x6, .int s2, .int s1, .ref 206], hp nS M)) (by with_unfolding_all rfl)
set_option maxRecDepth 20000 in
theorem b_224_107 {d nS : Nat} {x1 x2 x3 x4 x5 x6 s1 s2 s3 : Int32} {M : am_M} {Q : Option Value → am_H → Prop} (h1 : vp_in s1 136) (h2 : vp_in x5 136) : am_Wp d 224 107 [.ref 205, .int x1, .int x2, .int x3, .int x4, .int x5, .int x6] [.int s3, .int s2, .int s1, .ref 206] (hp nS M) Q = if x3 ≤ 0 then am_Wp d 224 134 [.ref 205, .int x1, .int x2, .int x3, .int x4, .int x5, .int x6] [.int ((am_up M 206 s1.toNatClampNeg (s2 + (s3 * x4))) 206 x5.toNatClampNeg), .int x5, .ref 206] (hp nS (am_up M 206 s1.toNatClampNeg (s2 + (s3 * x4)))) Q else am_Wp d 224 129 [.ref 205, .int x1, .int x2, .int x3, .int x4, .int x5, .int x6] [.int ((am_up M 206 s1.toNatClampNeg (s2 + (s3 * x4))) 206 x5.toNatClampNeg), .int x5, .ref 206] (hp nS (am_up M 206 s1.toNatClampNeg (s2 + (s3 * x4)))) Q := by
  refine (eq_run 3 (q := (111, [.ref 205, .int x1, .int x2, .int x3, .int x4, .int x5, .int x6], [.int (s2 + (s3 * x4)), .int s1, .ref 206], hp nS M)) (by with_unfolding_all rfl)).trans ?_
  refine (eq_ast (e := (.iastore, 1, 0, 0, 0)) (by with_unfolding_all rfl) rfl (n := 136) (by with_unfolding_all rfl) (by decide) h1).trans ?_
  refine (eq_run 6 (q := (124, [.ref 205, .int x1, .int x2, .int x3, .int x4, .int x5, .int x6], [.int x5, .ref 206, .int x5, .ref 206], hp nS (am_up M 206 s1.toNatClampNeg (s2 + (s3 * x4))))) (by with_unfolding_all rfl)).trans ?_
  refine (eq_ald (e := (.iaload, 1, 0, 0, 0)) (by with_unfolding_all rfl) rfl (n := 136) (by with_unfolding_all rfl) h2).trans ?_
  refine (eq_run 1 (q := (126, [.ref 205, .int x1, .int x2, .int x3, .int x4, .int x5, .int x6], [.int x3, .int ((am_up M 206 s1.toNatClampNeg (s2 + (s3 * x4))) 206 x5.toNatClampNeg), .int x5, .ref 206], hp nS (am_up M 206 s1.toNatClampNeg (s2 + (s3 * x4))))) (by with_unfolding_all rfl)).trans ?_
  exact eq_if_le (by with_unfolding_all rfl)
set_option maxRecDepth 20000 in
theorem b_224_129 {d nS : Nat} {x1 x2 x3 x4 x5 x6 s1 s2 : Int32} {M : am_M} {Q : Option Value → am_H → Prop} : am_Wp d 224 129 [.ref 205, .int x1, .int x2, .int x3, .int x4, .int x5, .int x6] [.int s2, .int s1, .ref 206] (hp nS M) Q = am_Wp d 224 137 [.ref 205, .int x1, .int x2, .int x3, .int x4, .int x5, .int x6] [.int x6, .int s2, .int s1, .ref 206] (hp nS M) Q := by
  exact eq_run 2 (q := (137, [.ref 205, .int x1, .int x2, .int x3, .int x4, .int x5, .int x6], [.int x6, .int s2, .int s1, .ref 206], hp nS M)) (by with_unfolding_all rfl)
set_option maxRecDepth 20000 in
theorem b_224_134 {d nS : Nat} {x1 x2 x3 x4 x5 x6 s1 s2 : Int32} {M : am_M} {Q : Option Value → am_H → Prop} : am_Wp d 224 134 [.ref 205, .int x1, .int x2, .int x3, .int x4, .int x5, .int x6] [.int s2, .int s1, .ref 206] (hp nS M) Q = am_Wp d 224 137 [.ref 205, .int x1, .int x2, .int x3, .int x4, .int x5, .int x6] [.int (-x6), .int s2, .int s1, .ref 206] (hp nS M) Q := by
  exact eq_run 2 (q := (137, [.ref 205, .int x1, .int x2, .int x3, .int x4, .int x5, .int x6], [.int (-x6), .int s2, .int s1, .ref 206], hp nS M)) (by with_unfolding_all rfl)
set_option maxRecDepth 20000 in
theorem b_224_137 {d nS : Nat} {x1 x2 x3 x4 x5 x6 s1 s2 s3 : Int32} {M : am_M} {Q : Option Value → am_H → Prop} (h1 : vp_in s1 136) : am_Wp d 224 137 [.ref 205, .int x1, .int x2, .int x3, .int x4, .int x5, .int x6] [.int s3, .int s2, .int s1, .ref 206] (hp nS M) Q = if x3 ≤ 0 then am_Wp d 224 148 [.ref 205, .int x1, .int x2, .int x3, .int x4, .int x5, .int x6] [.ref 205] (hp nS (am_up M 206 s1.toNatClampNeg (s2 + s3))) Q else am_Wp d 224 144 [.ref 205, .int x1, .int x2, .int x3, .int x4, .int x5, .int x6] [.ref 205] (hp nS (am_up M 206 s1.toNatClampNeg (s2 + s3))) Q := by
  refine (eq_run 1 (q := (138, [.ref 205, .int x1, .int x2, .int x3, .int x4, .int x5, .int x6], [.int (s2 + s3), .int s1, .ref 206], hp nS M)) (by with_unfolding_all rfl)).trans ?_
  refine (eq_ast (e := (.iastore, 1, 0, 0, 0)) (by with_unfolding_all rfl) rfl (n := 136) (by with_unfolding_all rfl) (by decide) h1).trans ?_
  refine (eq_run 2 (q := (141, [.ref 205, .int x1, .int x2, .int x3, .int x4, .int x5, .int x6], [.int x3, .ref 205], hp nS (am_up M 206 s1.toNatClampNeg (s2 + s3)))) (by with_unfolding_all rfl)).trans ?_
  exact eq_if_le (by with_unfolding_all rfl)
set_option maxRecDepth 20000 in
theorem b_224_144 {d nS : Nat} {x1 x2 x3 x4 x5 x6 : Int32} {M : am_M} {Q : Option Value → am_H → Prop} : am_Wp d 224 144 [.ref 205, .int x1, .int x2, .int x3, .int x4, .int x5, .int x6] [.ref 205] (hp nS M) Q = am_Wp d 224 149 [.ref 205, .int x1, .int x2, .int x3, .int x4, .int x5, .int x6] [.int 2, .ref 205] (hp nS M) Q := by
  exact eq_run 2 (q := (149, [.ref 205, .int x1, .int x2, .int x3, .int x4, .int x5, .int x6], [.int 2, .ref 205], hp nS M)) (by with_unfolding_all rfl)
set_option maxRecDepth 20000 in
theorem b_224_148 {d nS : Nat} {x1 x2 x3 x4 x5 x6 : Int32} {M : am_M} {Q : Option Value → am_H → Prop} : am_Wp d 224 148 [.ref 205, .int x1, .int x2, .int x3, .int x4, .int x5, .int x6] [.ref 205] (hp nS M) Q = am_Wp d 224 149 [.ref 205, .int x1, .int x2, .int x3, .int x4, .int x5, .int x6] [.int 3, .ref 205] (hp nS M) Q := by
  exact eq_run 1 (q := (149, [.ref 205, .int x1, .int x2, .int x3, .int x4, .int x5, .int x6], [.int 3, .ref 205], hp nS M)) (by with_unfolding_all rfl)
set_option maxRecDepth 20000 in
theorem b_224_149 {d nS : Nat} {x1 x2 x3 x4 x5 x6 s1 : Int32} {M : am_M} {Q : Option Value → am_H → Prop} : am_Wp (d + 1) 224 149 [.ref 205, .int x1, .int x2, .int x3, .int x4, .int x5, .int x6] [.int s1, .ref 205] (hp nS M) Q = am_Wp d 226 0 [.ref 205, .int s1, .int x1, .int x6, .retAddr 0] [] (hp nS M) (fun v h1 => am_Wp (d + 1) 224 155 [.ref 205, .int x1, .int x2, .int x3, .int x4, .int x5, .int x6] (am_ans v []) h1 Q) := by
  refine (eq_run 2 (q := (152, [.ref 205, .int x1, .int x2, .int x3, .int x4, .int x5, .int x6], [.int x6, .int x1, .int s1, .ref 205], hp nS M)) (by with_unfolding_all rfl)).trans ?_
  exact eq_call2 (e := (.invokevirtual 339, 3, 0, 226, 322)) (as := [.ref 205, .int s1, .int x1, .int x6]) (r := []) (n := 4) (m := 5) (by with_unfolding_all rfl) rfl (by decide) (by with_unfolding_all rfl) (by decide) (by with_unfolding_all rfl) ⟨fun _ => am_rec_ok (c := 14) (by with_unfolding_all rfl) (by decide +kernel), fun z => by simp at z⟩
set_option maxRecDepth 20000 in
theorem b_224_155 {d nS : Nat} {x1 x2 x3 x4 x5 x6 : Int32} {M : am_M} {Q : Option Value → am_H → Prop} : am_Wp d 224 155 [.ref 205, .int x1, .int x2, .int x3, .int x4, .int x5, .int x6] [] (hp nS M) Q = Q none (hp nS M) := by
  exact eq_retV2 (e := (.return_, 1, 0, 0, 0)) (by with_unfolding_all rfl) rfl (by with_unfolding_all rfl)
-- lesser(II)I
set_option maxRecDepth 20000 in
theorem b_225_0 {d nS : Nat} {x1 x2 : Int32} {M : am_M} {Q : Option Value → am_H → Prop} : am_Wp d 225 0 [.ref 205, .int x1, .int x2] [] (hp nS M) Q = if x2 ≤ x1 then am_Wp d 225 9 [.ref 205, .int x1, .int x2] [] (hp nS M) Q else am_Wp d 225 5 [.ref 205, .int x1, .int x2] [] (hp nS M) Q := by
  refine (eq_run 2 (q := (2, [.ref 205, .int x1, .int x2], [.int x2, .int x1], hp nS M)) (by with_unfolding_all rfl)).trans ?_
  exact eq_cmp_ge (by with_unfolding_all rfl)
set_option maxRecDepth 20000 in
theorem b_225_5 {d nS : Nat} {x1 x2 : Int32} {M : am_M} {Q : Option Value → am_H → Prop} : am_Wp d 225 5 [.ref 205, .int x1, .int x2] [] (hp nS M) Q = am_Wp d 225 10 [.ref 205, .int x1, .int x2] [.int x1] (hp nS M) Q := by
  exact eq_run 2 (q := (10, [.ref 205, .int x1, .int x2], [.int x1], hp nS M)) (by with_unfolding_all rfl)
set_option maxRecDepth 20000 in
theorem b_225_9 {d nS : Nat} {x1 x2 : Int32} {M : am_M} {Q : Option Value → am_H → Prop} : am_Wp d 225 9 [.ref 205, .int x1, .int x2] [] (hp nS M) Q = am_Wp d 225 10 [.ref 205, .int x1, .int x2] [.int x2] (hp nS M) Q := by
  exact eq_run 1 (q := (10, [.ref 205, .int x1, .int x2], [.int x2], hp nS M)) (by with_unfolding_all rfl)
set_option maxRecDepth 20000 in
theorem b_225_10 {d nS : Nat} {x1 x2 s0 : Int32} {M : am_M} {Q : Option Value → am_H → Prop} : am_Wp d 225 10 [.ref 205, .int x1, .int x2] [.int s0] (hp nS M) Q = Q (some (.int s0)) (hp nS M) := by
  exact eq_retI2 (e := (.ireturn, 1, 0, 0, 0)) (t := .int) (by with_unfolding_all rfl) rfl (by with_unfolding_all rfl) rfl
-- notes(III)V
set_option maxRecDepth 20000 in
theorem b_226_0 {d nS : Nat} {x1 x2 x3 : Int32} {M : am_M} {Q : Option Value → am_H → Prop} : am_Wp d 226 0 [.ref 205, .int x1, .int x2, .int x3, .retAddr 0] [] (hp nS M) Q = if ¬ (M 205 7) = 0 then am_Wp d 226 19 [.ref 205, .int x1, .int x2, .int x3, .retAddr 0] [] (hp nS M) Q else am_Wp d 226 7 [.ref 205, .int x1, .int x2, .int x3, .retAddr 0] [] (hp nS M) Q := by
  refine (eq_run 2 (q := (4, [.ref 205, .int x1, .int x2, .int x3, .retAddr 0], [.int (M 205 7)], hp nS M)) (by with_unfolding_all rfl)).trans ?_
  exact eq_if_ne (by with_unfolding_all rfl)
set_option maxRecDepth 20000 in
theorem b_226_7 {d nS : Nat} {x1 x2 x3 : Int32} {M : am_M} {Q : Option Value → am_H → Prop} : am_Wp d 226 7 [.ref 205, .int x1, .int x2, .int x3, .retAddr 0] [] (hp nS M) Q = if ¬ (M 206 2) = 150 then am_Wp d 226 20 [.ref 205, .int x1, .int x2, .int x3, .retAddr 0] [] (hp nS M) Q else am_Wp d 226 19 [.ref 205, .int x1, .int x2, .int x3, .retAddr 0] [] (hp nS M) Q := by
  refine (eq_run 5 (q := (16, [.ref 205, .int x1, .int x2, .int x3, .retAddr 0], [.int 150, .int (M 206 2)], hp nS M)) (by with_unfolding_all rfl)).trans ?_
  exact eq_cmp_ne (by with_unfolding_all rfl)
set_option maxRecDepth 20000 in
theorem b_226_19 {d nS : Nat} {x1 x2 x3 : Int32} {M : am_M} {Q : Option Value → am_H → Prop} : am_Wp d 226 19 [.ref 205, .int x1, .int x2, .int x3, .retAddr 0] [] (hp nS M) Q = Q none (hp nS M) := by
  exact eq_retV2 (e := (.return_, 1, 0, 0, 0)) (by with_unfolding_all rfl) rfl (by with_unfolding_all rfl)
set_option maxRecDepth 20000 in
theorem b_226_20 {d nS : Nat} {x1 x2 x3 : Int32} {M : am_M} {Q : Option Value → am_H → Prop} (h1 : vp_in (4 * (M 206 2)) 600) (h2 : vp_in ((4 * (M 206 2)) + 1) 600) (h3 : vp_in ((4 * (M 206 2)) + 2) 600) (h4 : vp_in ((4 * (M 206 2)) + 3) 600) : am_Wp d 226 20 [.ref 205, .int x1, .int x2, .int x3, .retAddr 0] [] (hp nS M) Q = Q none (hp nS (am_up (am_up (am_up (am_up (am_up M 211 (4 * (M 206 2)).toNatClampNeg (M 206 0)) 211 ((4 * (M 206 2)) + 1).toNatClampNeg x1) 211 ((4 * (M 206 2)) + 2).toNatClampNeg x2) 211 ((4 * (M 206 2)) + 3).toNatClampNeg x3) 206 2 (((am_up (am_up (am_up (am_up M 211 (4 * (M 206 2)).toNatClampNeg (M 206 0)) 211 ((4 * (M 206 2)) + 1).toNatClampNeg x1) 211 ((4 * (M 206 2)) + 2).toNatClampNeg x2) 211 ((4 * (M 206 2)) + 3).toNatClampNeg x3) 206 2) + 1))) := by
  refine (eq_run 14 (q := (42, [.ref 205, .int x1, .int x2, .int x3, .int (4 * (M 206 2))], [.int (M 206 0), .int (4 * (M 206 2)), .ref 211], hp nS M)) (by with_unfolding_all rfl)).trans ?_
  refine (eq_ast (e := (.iastore, 1, 0, 0, 0)) (by with_unfolding_all rfl) rfl (n := 600) (by with_unfolding_all rfl) (by decide) h1).trans ?_
  refine (eq_run 6 (q := (52, [.ref 205, .int x1, .int x2, .int x3, .int (4 * (M 206 2))], [.int x1, .int ((4 * (M 206 2)) + 1), .ref 211], hp nS (am_up M 211 (4 * (M 206 2)).toNatClampNeg (M 206 0)))) (by with_unfolding_all rfl)).trans ?_
  refine (eq_ast (e := (.iastore, 1, 0, 0, 0)) (by with_unfolding_all rfl) rfl (n := 600) (by with_unfolding_all rfl) (by decide) h2).trans ?_
  refine (eq_run 6 (q := (62, [.ref 205, .int x1, .int x2, .int x3, .int (4 * (M 206 2))], [.int x2, .int ((4 * (M 206 2)) + 2), .ref 211], hp nS (am_up (am_up M 211 (4 * (M 206 2)).toNatClampNeg (M 206 0)) 211 ((4 * (M 206 2)) + 1).toNatClampNeg x1))) (by with_unfolding_all rfl)).trans ?_
  refine (eq_ast (e := (.iastore, 1, 0, 0, 0)) (by with_unfolding_all rfl) rfl (n := 600) (by with_unfolding_all rfl) (by decide) h3).trans ?_
  refine (eq_run 6 (q := (72, [.ref 205, .int x1, .int x2, .int x3, .int (4 * (M 206 2))], [.int x3, .int ((4 * (M 206 2)) + 3), .ref 211], hp nS (am_up (am_up (am_up M 211 (4 * (M 206 2)).toNatClampNeg (M 206 0)) 211 ((4 * (M 206 2)) + 1).toNatClampNeg x1) 211 ((4 * (M 206 2)) + 2).toNatClampNeg x2))) (by with_unfolding_all rfl)).trans ?_
  refine (eq_ast (e := (.iastore, 1, 0, 0, 0)) (by with_unfolding_all rfl) rfl (n := 600) (by with_unfolding_all rfl) (by decide) h4).trans ?_
  refine (eq_run 10 (q := (87, [.ref 205, .int x1, .int x2, .int x3, .int (4 * (M 206 2))], [], hp nS (am_up (am_up (am_up (am_up (am_up M 211 (4 * (M 206 2)).toNatClampNeg (M 206 0)) 211 ((4 * (M 206 2)) + 1).toNatClampNeg x1) 211 ((4 * (M 206 2)) + 2).toNatClampNeg x2) 211 ((4 * (M 206 2)) + 3).toNatClampNeg x3) 206 2 (((am_up (am_up (am_up (am_up M 211 (4 * (M 206 2)).toNatClampNeg (M 206 0)) 211 ((4 * (M 206 2)) + 1).toNatClampNeg x1) 211 ((4 * (M 206 2)) + 2).toNatClampNeg x2) 211 ((4 * (M 206 2)) + 3).toNatClampNeg x3) 206 2) + 1)))) (by with_unfolding_all rfl)).trans ?_
  exact eq_retV2 (e := (.return_, 1, 0, 0, 0)) (by with_unfolding_all rfl) rfl (by with_unfolding_all rfl)
-- isSought(I)V
set_option maxRecDepth 20000 in
theorem b_227_0 {d nS : Nat} {x1 : Int32} {M : am_M} {Q : Option Value → am_H → Prop} (h1 : vp_in (16 + x1) 136) (h2 : vp_in (4 + x1) 136) : am_Wp d 227 0 [.ref 205, .int x1] [] (hp nS M) Q = Q none (hp nS (am_up (am_up M 206 (16 + x1).toNatClampNeg 0) 206 (4 + x1).toNatClampNeg 0)) := by
  refine (eq_run 6 (q := (9, [.ref 205, .int x1], [.int 0, .int (16 + x1), .ref 206], hp nS M)) (by with_unfolding_all rfl)).trans ?_
  refine (eq_ast (e := (.iastore, 1, 0, 0, 0)) (by with_unfolding_all rfl) rfl (n := 136) (by with_unfolding_all rfl) (by decide) h1).trans ?_
  refine (eq_run 6 (q := (18, [.ref 205, .int x1], [.int 0, .int (4 + x1), .ref 206], hp nS (am_up M 206 (16 + x1).toNatClampNeg 0))) (by with_unfolding_all rfl)).trans ?_
  refine (eq_ast (e := (.iastore, 1, 0, 0, 0)) (by with_unfolding_all rfl) rfl (n := 136) (by with_unfolding_all rfl) (by decide) h2).trans ?_
  exact eq_retV2 (e := (.return_, 1, 0, 0, 0)) (by with_unfolding_all rfl) rfl (by with_unfolding_all rfl)
-- days(I)I
set_option maxRecDepth 20000 in
theorem b_228_0 {d nS : Nat} {x1 : Int32} {M : am_M} {Q : Option Value → am_H → Prop} : am_Wp (d + 1) 228 0 [.ref 205, .int x1, .retAddr 0, .retAddr 0] [] (hp nS M) Q = am_Wp d 171 0 [.ref 205, .int x1, .int 1, .int 60] [] (hp nS (am_up M 205 0 0)) (fun v h1 => am_Wp (d + 1) 228 13 [.ref 205, .int x1, .retAddr 0, .retAddr 0] (am_ans v []) h1 Q) := by
  refine (eq_run 7 (q := (10, [.ref 205, .int x1, .retAddr 0, .retAddr 0], [.int 60, .int 1, .int x1, .ref 205], hp nS (am_up M 205 0 0))) (by with_unfolding_all rfl)).trans ?_
  exact eq_call2 (e := (.invokevirtual 144, 3, 0, 171, 275)) (as := [.ref 205, .int x1, .int 1, .int 60]) (r := []) (n := 4) (m := 4) (by with_unfolding_all rfl) rfl (by decide) (by with_unfolding_all rfl) (by decide) (by with_unfolding_all rfl) ⟨fun _ => am_rec_ok (c := 14) (by with_unfolding_all rfl) (by decide +kernel), fun z => by simp at z⟩
set_option maxRecDepth 20000 in
theorem b_228_13 {d nS : Nat} {x1 s0 : Int32} {M : am_M} {Q : Option Value → am_H → Prop} : am_Wp d 228 13 [.ref 205, .int x1, .retAddr 0, .retAddr 0] [.int s0] (hp nS M) Q = if s0 = 0 then am_Wp d 228 30 [.ref 205, .int x1, .retAddr 0, .retAddr 0] [] (hp nS M) Q else am_Wp d 228 16 [.ref 205, .int x1, .retAddr 0, .retAddr 0] [] (hp nS M) Q := by
  exact eq_if_eq (by with_unfolding_all rfl)
set_option maxRecDepth 20000 in
theorem b_228_16 {d nS : Nat} {x1 : Int32} {M : am_M} {Q : Option Value → am_H → Prop} : am_Wp d 228 16 [.ref 205, .int x1, .retAddr 0, .retAddr 0] [] (hp nS M) Q = if ((M 206 0) + x1) ≤ 9999 then am_Wp d 228 32 [.ref 205, .int x1, .retAddr 0, .retAddr 0] [] (hp nS M) Q else am_Wp d 228 30 [.ref 205, .int x1, .retAddr 0, .retAddr 0] [] (hp nS M) Q := by
  refine (eq_run 7 (q := (27, [.ref 205, .int x1, .retAddr 0, .retAddr 0], [.int 9999, .int ((M 206 0) + x1)], hp nS M)) (by with_unfolding_all rfl)).trans ?_
  exact eq_cmp_le (by with_unfolding_all rfl)
set_option maxRecDepth 20000 in
theorem b_228_30 {d nS : Nat} {x1 : Int32} {M : am_M} {Q : Option Value → am_H → Prop} : am_Wp d 228 30 [.ref 205, .int x1, .retAddr 0, .retAddr 0] [] (hp nS M) Q = Q (some (.int (-1))) (hp nS M) := by
  refine (eq_run 1 (q := (31, [.ref 205, .int x1, .retAddr 0, .retAddr 0], [.int (-1)], hp nS M)) (by with_unfolding_all rfl)).trans ?_
  exact eq_retI2 (e := (.ireturn, 1, 0, 0, 0)) (t := .int) (by with_unfolding_all rfl) rfl (by with_unfolding_all rfl) rfl
set_option maxRecDepth 20000 in
theorem b_228_32 {d nS : Nat} {x1 : Int32} {M : am_M} {Q : Option Value → am_H → Prop} : am_Wp d 228 32 [.ref 205, .int x1, .retAddr 0, .retAddr 0] [] (hp nS M) Q = am_Wp d 228 36 [.ref 205, .int x1, .int 0, .int 0] [] (hp nS M) Q := by
  exact eq_run 4 (q := (36, [.ref 205, .int x1, .int 0, .int 0], [], hp nS M)) (by with_unfolding_all rfl)
set_option maxRecDepth 20000 in
theorem b_228_36 {d nS : Nat} {x1 x2 x3 : Int32} {M : am_M} {Q : Option Value → am_H → Prop} : am_Wp d 228 36 [.ref 205, .int x1, .int x2, .int x3] [] (hp nS M) Q = if x1 ≤ x3 then am_Wp d 228 58 [.ref 205, .int x1, .int x2, .int x3] [] (hp nS M) Q else am_Wp d 228 41 [.ref 205, .int x1, .int x2, .int x3] [] (hp nS M) Q := by
  refine (eq_run 2 (q := (38, [.ref 205, .int x1, .int x2, .int x3], [.int x1, .int x3], hp nS M)) (by with_unfolding_all rfl)).trans ?_
  exact eq_cmp_ge (by with_unfolding_all rfl)
set_option maxRecDepth 20000 in
theorem b_228_41 {d nS : Nat} {x1 x2 x3 : Int32} {M : am_M} {Q : Option Value → am_H → Prop} : am_Wp (d + 1) 228 41 [.ref 205, .int x1, .int x2, .int x3] [] (hp nS M) Q = am_Wp d 223 0 [.ref 205, .retAddr 0] [] (hp nS M) (fun v h1 => am_Wp (d + 1) 228 45 [.ref 205, .int x1, .int x2, .int x3] (am_ans v []) h1 Q) := by
  refine (eq_run 1 (q := (42, [.ref 205, .int x1, .int x2, .int x3], [.ref 205], hp nS M)) (by with_unfolding_all rfl)).trans ?_
  exact eq_call2 (e := (.invokevirtual 355, 3, 0, 223, 327)) (as := [.ref 205]) (r := []) (n := 1) (m := 2) (by with_unfolding_all rfl) rfl (by decide) (by with_unfolding_all rfl) (by decide) (by with_unfolding_all rfl) ⟨fun _ => am_rec_ok (c := 14) (by with_unfolding_all rfl) (by decide +kernel), fun z => by simp at z⟩
set_option maxRecDepth 20000 in
theorem b_228_45 {d nS : Nat} {x1 x2 x3 : Int32} {M : am_M} {Q : Option Value → am_H → Prop} : am_Wp (d + 1) 228 45 [.ref 205, .int x1, .int x2, .int x3] [] (hp nS M) Q = am_Wp d 229 0 [.ref 205, .retAddr 0, .retAddr 0] [] (hp nS M) (fun v h1 => am_Wp (d + 1) 228 50 [.ref 205, .int x1, .int x2, .int x3] (am_ans v [.int x2]) h1 Q) := by
  refine (eq_run 2 (q := (47, [.ref 205, .int x1, .int x2, .int x3], [.ref 205, .int x2], hp nS M)) (by with_unfolding_all rfl)).trans ?_
  exact eq_call2 (e := (.invokevirtual 392, 3, 0, 229, 339)) (as := [.ref 205]) (r := [.int x2]) (n := 1) (m := 3) (by with_unfolding_all rfl) rfl (by decide) (by with_unfolding_all rfl) (by decide) (by with_unfolding_all rfl) ⟨fun _ => am_rec_ok (c := 14) (by with_unfolding_all rfl) (by decide +kernel), fun z => by simp at z⟩
set_option maxRecDepth 20000 in
theorem b_228_50 {d nS : Nat} {x1 x2 x3 s0 s1 : Int32} {M : am_M} {Q : Option Value → am_H → Prop} : am_Wp d 228 50 [.ref 205, .int x1, .int x2, .int x3] [.int s1, .int s0] (hp nS M) Q = am_Wp d 228 36 [.ref 205, .int x1, .int (s0 + s1), .int (x3 + 1)] [] (hp nS M) Q := by
  exact eq_run 4 (q := (36, [.ref 205, .int x1, .int (s0 + s1), .int (x3 + 1)], [], hp nS M)) (by with_unfolding_all rfl)
set_option maxRecDepth 20000 in
theorem b_228_58 {d nS : Nat} {x1 x2 x3 : Int32} {M : am_M} {Q : Option Value → am_H → Prop} : am_Wp d 228 58 [.ref 205, .int x1, .int x2, .int x3] [] (hp nS M) Q = Q (some (.int x2)) (hp nS M) := by
  refine (eq_run 1 (q := (59, [.ref 205, .int x1, .int x2, .int x3], [.int x2], hp nS M)) (by with_unfolding_all rfl)).trans ?_
  exact eq_retI2 (e := (.ireturn, 1, 0, 0, 0)) (t := .int) (by with_unfolding_all rfl) rfl (by with_unfolding_all rfl) rfl
-- goesBy()I
set_option maxRecDepth 20000 in
theorem b_229_0 {d nS : Nat} {M : am_M} {Q : Option Value → am_H → Prop} : am_Wp d 229 0 [.ref 205, .retAddr 0, .retAddr 0] [] (hp nS M) Q = am_Wp d 229 2 [.ref 205, .int 0, .retAddr 0] [] (hp nS M) Q := by
  exact eq_run 2 (q := (2, [.ref 205, .int 0, .retAddr 0], [], hp nS M)) (by with_unfolding_all rfl)
set_option maxRecDepth 20000 in
theorem b_229_2 {d nS : Nat} {x1 : Int32} {M : am_M} {Q : Option Value → am_H → Prop} : am_Wp d 229 2 [.ref 205, .int x1, .retAddr 0] [] (hp nS M) Q = if (4 * (M 205 37)) ≤ x1 then am_Wp d 229 39 [.ref 205, .int x1, .retAddr 0] [] (hp nS M) Q else am_Wp d 229 12 [.ref 205, .int x1, .retAddr 0] [] (hp nS M) Q := by
  refine (eq_run 5 (q := (9, [.ref 205, .int x1, .retAddr 0], [.int (4 * (M 205 37)), .int x1], hp nS M)) (by with_unfolding_all rfl)).trans ?_
  exact eq_cmp_ge (by with_unfolding_all rfl)
set_option maxRecDepth 20000 in
theorem b_229_12 {d nS : Nat} {x1 : Int32} {M : am_M} {Q : Option Value → am_H → Prop} (h1 : vp_in x1 128) : am_Wp d 229 12 [.ref 205, .int x1, .retAddr 0] [] (hp nS M) Q = if ¬ (M 222 x1.toNatClampNeg) = (M 206 0) then am_Wp d 229 32 [.ref 205, .int x1, .retAddr 0] [] (hp nS M) Q else am_Wp d 229 27 [.ref 205, .int x1, .retAddr 0] [] (hp nS M) Q := by
  refine (eq_run 3 (q := (17, [.ref 205, .int x1, .retAddr 0], [.int x1, .ref 222], hp nS M)) (by with_unfolding_all rfl)).trans ?_
  refine (eq_ald (e := (.iaload, 1, 0, 0, 0)) (by with_unfolding_all rfl) rfl (n := 128) (by with_unfolding_all rfl) h1).trans ?_
  refine (eq_run 4 (q := (24, [.ref 205, .int x1, .retAddr 0], [.int (M 206 0), .int (M 222 x1.toNatClampNeg)], hp nS M)) (by with_unfolding_all rfl)).trans ?_
  exact eq_cmp_ne (by with_unfolding_all rfl)
set_option maxRecDepth 20000 in
theorem b_229_27 {d nS : Nat} {x1 : Int32} {M : am_M} {Q : Option Value → am_H → Prop} : am_Wp (d + 1) 229 27 [.ref 205, .int x1, .retAddr 0] [] (hp nS M) Q = am_Wp d 230 0 [.ref 205, .int x1, .retAddr 0] [] (hp nS M) (fun v h1 => am_Wp (d + 1) 229 32 [.ref 205, .int x1, .retAddr 0] (am_ans v []) h1 Q) := by
  refine (eq_run 2 (q := (29, [.ref 205, .int x1, .retAddr 0], [.int x1, .ref 205], hp nS M)) (by with_unfolding_all rfl)).trans ?_
  exact eq_call2 (e := (.invokevirtual 380, 3, 0, 230, 335)) (as := [.ref 205, .int x1]) (r := []) (n := 2) (m := 3) (by with_unfolding_all rfl) rfl (by decide) (by with_unfolding_all rfl) (by decide) (by with_unfolding_all rfl) ⟨fun _ => am_rec_ok (c := 14) (by with_unfolding_all rfl) (by decide +kernel), fun z => by simp at z⟩
set_option maxRecDepth 20000 in
theorem b_229_32 {d nS : Nat} {x1 : Int32} {M : am_M} {Q : Option Value → am_H → Prop} : am_Wp d 229 32 [.ref 205, .int x1, .retAddr 0] [] (hp nS M) Q = am_Wp d 229 2 [.ref 205, .int (x1 + 4), .retAddr 0] [] (hp nS M) Q := by
  exact eq_run 5 (q := (2, [.ref 205, .int (x1 + 4), .retAddr 0], [], hp nS M)) (by with_unfolding_all rfl)
set_option maxRecDepth 20000 in
theorem b_229_39 {d nS : Nat} {x1 : Int32} {M : am_M} {Q : Option Value → am_H → Prop} : am_Wp d 229 39 [.ref 205, .int x1, .retAddr 0] [] (hp nS M) Q = am_Wp d 229 43 [.ref 205, .int 0, .int 0] [] (hp nS M) Q := by
  exact eq_run 4 (q := (43, [.ref 205, .int 0, .int 0], [], hp nS M)) (by with_unfolding_all rfl)
set_option maxRecDepth 20000 in
theorem b_229_43 {d nS : Nat} {x1 x2 : Int32} {M : am_M} {Q : Option Value → am_H → Prop} : am_Wp d 229 43 [.ref 205, .int x1, .int x2] [] (hp nS M) Q = if (M 205 8) ≤ x2 then am_Wp d 229 77 [.ref 205, .int x1, .int x2] [] (hp nS M) Q else am_Wp d 229 51 [.ref 205, .int x1, .int x2] [] (hp nS M) Q := by
  refine (eq_run 3 (q := (48, [.ref 205, .int x1, .int x2], [.int (M 205 8), .int x2], hp nS M)) (by with_unfolding_all rfl)).trans ?_
  exact eq_cmp_ge (by with_unfolding_all rfl)
set_option maxRecDepth 20000 in
theorem b_229_51 {d nS : Nat} {x1 x2 : Int32} {M : am_M} {Q : Option Value → am_H → Prop} : am_Wp (d + 1) 229 51 [.ref 205, .int x1, .int x2] [] (hp nS M) Q = am_Wp d 222 0 [.ref 205, .int x2] [] (hp nS M) (fun v h1 => am_Wp (d + 1) 229 56 [.ref 205, .int x1, .int x2] (am_ans v []) h1 Q) := by
  refine (eq_run 2 (q := (53, [.ref 205, .int x1, .int x2], [.int x2, .ref 205], hp nS M)) (by with_unfolding_all rfl)).trans ?_
  exact eq_call2 (e := (.invokevirtual 349, 3, 0, 222, 325)) (as := [.ref 205, .int x2]) (r := []) (n := 2) (m := 2) (by with_unfolding_all rfl) rfl (by decide) (by with_unfolding_all rfl) (by decide) (by with_unfolding_all rfl) ⟨fun _ => am_rec_ok (c := 14) (by with_unfolding_all rfl) (by decide +kernel), fun z => by simp at z⟩
set_option maxRecDepth 20000 in
theorem b_229_56 {d nS : Nat} {x1 x2 s0 : Int32} {M : am_M} {Q : Option Value → am_H → Prop} : am_Wp d 229 56 [.ref 205, .int x1, .int x2] [.int s0] (hp nS M) Q = if ¬ s0 = 0 then am_Wp d 229 71 [.ref 205, .int x1, .int x2] [] (hp nS M) Q else am_Wp d 229 59 [.ref 205, .int x1, .int x2] [] (hp nS M) Q := by
  exact eq_if_ne (by with_unfolding_all rfl)
set_option maxRecDepth 20000 in
theorem b_229_59 {d nS : Nat} {x1 x2 : Int32} {M : am_M} {Q : Option Value → am_H → Prop} : am_Wp (d + 1) 229 59 [.ref 205, .int x1, .int x2] [] (hp nS M) Q = am_Wp d 231 0 [.ref 205, .int x2, .retAddr 0, .retAddr 0] [] (hp nS M) (fun v h1 => am_Wp (d + 1) 229 64 [.ref 205, .int x1, .int x2] (am_ans v []) h1 Q) := by
  refine (eq_run 2 (q := (61, [.ref 205, .int x1, .int x2], [.int x2, .ref 205], hp nS M)) (by with_unfolding_all rfl)).trans ?_
  exact eq_call2 (e := (.invokevirtual 383, 3, 0, 231, 336)) (as := [.ref 205, .int x2]) (r := []) (n := 2) (m := 4) (by with_unfolding_all rfl) rfl (by decide) (by with_unfolding_all rfl) (by decide) (by with_unfolding_all rfl) ⟨fun _ => am_rec_ok (c := 14) (by with_unfolding_all rfl) (by decide +kernel), fun z => by simp at z⟩
set_option maxRecDepth 20000 in
theorem b_229_64 {d nS : Nat} {x1 x2 s0 : Int32} {M : am_M} {Q : Option Value → am_H → Prop} : am_Wp d 229 64 [.ref 205, .int x1, .int x2] [.int s0] (hp nS M) Q = if s0 = 0 then am_Wp d 229 71 [.ref 205, .int x1, .int x2] [] (hp nS M) Q else am_Wp d 229 67 [.ref 205, .int x1, .int x2] [] (hp nS M) Q := by
  exact eq_if_eq (by with_unfolding_all rfl)
set_option maxRecDepth 20000 in
theorem b_229_67 {d nS : Nat} {x1 x2 : Int32} {M : am_M} {Q : Option Value → am_H → Prop} : am_Wp d 229 67 [.ref 205, .int x1, .int x2] [] (hp nS M) Q = am_Wp d 229 71 [.ref 205, .int (x1 + 1), .int x2] [] (hp nS M) Q := by
  exact eq_run 4 (q := (71, [.ref 205, .int (x1 + 1), .int x2], [], hp nS M)) (by with_unfolding_all rfl)
set_option maxRecDepth 20000 in
theorem b_229_71 {d nS : Nat} {x1 x2 : Int32} {M : am_M} {Q : Option Value → am_H → Prop} : am_Wp d 229 71 [.ref 205, .int x1, .int x2] [] (hp nS M) Q = am_Wp d 229 43 [.ref 205, .int x1, .int (x2 + 1)] [] (hp nS M) Q := by
  exact eq_run 2 (q := (43, [.ref 205, .int x1, .int (x2 + 1)], [], hp nS M)) (by with_unfolding_all rfl)
set_option maxRecDepth 20000 in
theorem b_229_77 {d nS : Nat} {x1 x2 : Int32} {M : am_M} {Q : Option Value → am_H → Prop} : am_Wp d 229 77 [.ref 205, .int x1, .int x2] [] (hp nS M) Q = am_Wp d 229 79 [.ref 205, .int x1, .int 0] [] (hp nS M) Q := by
  exact eq_run 2 (q := (79, [.ref 205, .int x1, .int 0], [], hp nS M)) (by with_unfolding_all rfl)
set_option maxRecDepth 20000 in
theorem b_229_79 {d nS : Nat} {x1 x2 : Int32} {M : am_M} {Q : Option Value → am_H → Prop} : am_Wp d 229 79 [.ref 205, .int x1, .int x2] [] (hp nS M) Q = if (M 205 9) ≤ x2 then am_Wp d 229 131 [.ref 205, .int x1, .int x2] [] (hp nS M) Q else am_Wp d 229 87 [.ref 205, .int x1, .int x2] [] (hp nS M) Q := by
  refine (eq_run 3 (q := (84, [.ref 205, .int x1, .int x2], [.int (M 205 9), .int x2], hp nS M)) (by with_unfolding_all rfl)).trans ?_
  exact eq_cmp_ge (by with_unfolding_all rfl)
set_option maxRecDepth 20000 in
theorem b_229_87 {d nS : Nat} {x1 x2 : Int32} {M : am_M} {Q : Option Value → am_H → Prop} (h1 : vp_in x2 16) : am_Wp d 229 87 [.ref 205, .int x1, .int x2] [] (hp nS M) Q = if (M 224 x2.toNatClampNeg) = 0 then am_Wp d 229 111 [.ref 205, .int x1, .int x2] [] (hp nS M) Q else am_Wp d 229 96 [.ref 205, .int x1, .int x2] [] (hp nS M) Q := by
  refine (eq_run 3 (q := (92, [.ref 205, .int x1, .int x2], [.int x2, .ref 224], hp nS M)) (by with_unfolding_all rfl)).trans ?_
  refine (eq_ald (e := (.iaload, 1, 0, 0, 0)) (by with_unfolding_all rfl) rfl (n := 16) (by with_unfolding_all rfl) h1).trans ?_
  exact eq_if_eq (by with_unfolding_all rfl)
set_option maxRecDepth 20000 in
theorem b_229_96 {d nS : Nat} {x1 x2 : Int32} {M : am_M} {Q : Option Value → am_H → Prop} (h1 : vp_in x2 16) : am_Wp (d + 1) 229 96 [.ref 205, .int x1, .int x2] [] (hp nS M) Q = am_Wp d 222 0 [.ref 205, .int ((M 224 x2.toNatClampNeg) - 1)] [] (hp nS M) (fun v h1 => am_Wp (d + 1) 229 108 [.ref 205, .int x1, .int x2] (am_ans v []) h1 Q) := by
  refine (eq_run 4 (q := (102, [.ref 205, .int x1, .int x2], [.int x2, .ref 224, .ref 205], hp nS M)) (by with_unfolding_all rfl)).trans ?_
  refine (eq_ald (e := (.iaload, 1, 0, 0, 0)) (by with_unfolding_all rfl) rfl (n := 16) (by with_unfolding_all rfl) h1).trans ?_
  refine (eq_run 2 (q := (105, [.ref 205, .int x1, .int x2], [.int ((M 224 x2.toNatClampNeg) - 1), .ref 205], hp nS M)) (by with_unfolding_all rfl)).trans ?_
  exact eq_call2 (e := (.invokevirtual 349, 3, 0, 222, 325)) (as := [.ref 205, .int ((M 224 x2.toNatClampNeg) - 1)]) (r := []) (n := 2) (m := 2) (by with_unfolding_all rfl) rfl (by decide) (by with_unfolding_all rfl) (by decide) (by with_unfolding_all rfl) ⟨fun _ => am_rec_ok (c := 14) (by with_unfolding_all rfl) (by decide +kernel), fun z => by simp at z⟩
set_option maxRecDepth 20000 in
theorem b_229_108 {d nS : Nat} {x1 x2 s0 : Int32} {M : am_M} {Q : Option Value → am_H → Prop} : am_Wp d 229 108 [.ref 205, .int x1, .int x2] [.int s0] (hp nS M) Q = if ¬ s0 = 0 then am_Wp d 229 125 [.ref 205, .int x1, .int x2] [] (hp nS M) Q else am_Wp d 229 111 [.ref 205, .int x1, .int x2] [] (hp nS M) Q := by
  exact eq_if_ne (by with_unfolding_all rfl)
set_option maxRecDepth 20000 in
theorem b_229_111 {d nS : Nat} {x1 x2 : Int32} {M : am_M} {Q : Option Value → am_H → Prop} : am_Wp (d + 1) 229 111 [.ref 205, .int x1, .int x2] [] (hp nS M) Q = am_Wp d 243 0 [.ref 205, .int x2] [] (hp nS M) (fun v h1 => am_Wp (d + 1) 229 124 [.ref 205, .int x1, .int x2] (am_ans v [.int (28 + x2), .ref 206]) h1 Q) := by
  refine (eq_run 7 (q := (121, [.ref 205, .int x1, .int x2], [.int x2, .ref 205, .int (28 + x2), .ref 206], hp nS M)) (by with_unfolding_all rfl)).trans ?_
  exact eq_call2 (e := (.invokevirtual 386, 3, 0, 243, 337)) (as := [.ref 205, .int x2]) (r := [.int (28 + x2), .ref 206]) (n := 2) (m := 2) (by with_unfolding_all rfl) rfl (by decide) (by with_unfolding_all rfl) (by decide) (by with_unfolding_all rfl) ⟨fun _ => am_rec_ok (c := 14) (by with_unfolding_all rfl) (by decide +kernel), fun z => by simp at z⟩
set_option maxRecDepth 20000 in
theorem b_229_124 {d nS : Nat} {x1 x2 s1 s2 : Int32} {M : am_M} {Q : Option Value → am_H → Prop} (h1 : vp_in s1 136) : am_Wp d 229 124 [.ref 205, .int x1, .int x2] [.int s2, .int s1, .ref 206] (hp nS M) Q = am_Wp d 229 125 [.ref 205, .int x1, .int x2] [] (hp nS (am_up M 206 s1.toNatClampNeg s2)) Q := by
  exact eq_ast (e := (.iastore, 1, 0, 0, 0)) (by with_unfolding_all rfl) rfl (n := 136) (by with_unfolding_all rfl) (by decide) h1
set_option maxRecDepth 20000 in
theorem b_229_125 {d nS : Nat} {x1 x2 : Int32} {M : am_M} {Q : Option Value → am_H → Prop} : am_Wp d 229 125 [.ref 205, .int x1, .int x2] [] (hp nS M) Q = am_Wp d 229 79 [.ref 205, .int x1, .int (x2 + 1)] [] (hp nS M) Q := by
  exact eq_run 2 (q := (79, [.ref 205, .int x1, .int (x2 + 1)], [], hp nS M)) (by with_unfolding_all rfl)
set_option maxRecDepth 20000 in
theorem b_229_131 {d nS : Nat} {x1 x2 : Int32} {M : am_M} {Q : Option Value → am_H → Prop} : am_Wp d 229 131 [.ref 205, .int x1, .int x2] [] (hp nS M) Q = am_Wp d 229 133 [.ref 205, .int x1, .int 0] [] (hp nS M) Q := by
  exact eq_run 2 (q := (133, [.ref 205, .int x1, .int 0], [], hp nS M)) (by with_unfolding_all rfl)
set_option maxRecDepth 20000 in
theorem b_229_133 {d nS : Nat} {x1 x2 : Int32} {M : am_M} {Q : Option Value → am_H → Prop} : am_Wp d 229 133 [.ref 205, .int x1, .int x2] [] (hp nS M) Q = if (4 * (M 205 39)) ≤ x2 then am_Wp d 229 208 [.ref 205, .int x1, .int x2] [] (hp nS M) Q else am_Wp d 229 143 [.ref 205, .int x1, .int x2] [] (hp nS M) Q := by
  refine (eq_run 5 (q := (140, [.ref 205, .int x1, .int x2], [.int (4 * (M 205 39)), .int x2], hp nS M)) (by with_unfolding_all rfl)).trans ?_
  exact eq_cmp_ge (by with_unfolding_all rfl)
set_option maxRecDepth 20000 in
theorem b_229_143 {d nS : Nat} {x1 x2 : Int32} {M : am_M} {Q : Option Value → am_H → Prop} (h1 : vp_in x2 128) : am_Wp d 229 143 [.ref 205, .int x1, .int x2] [] (hp nS M) Q = if ¬ (M 223 x2.toNatClampNeg) = (M 206 0) then am_Wp d 229 201 [.ref 205, .int x1, .int x2] [] (hp nS M) Q else am_Wp d 229 158 [.ref 205, .int x1, .int x2] [] (hp nS M) Q := by
  refine (eq_run 3 (q := (148, [.ref 205, .int x1, .int x2], [.int x2, .ref 223], hp nS M)) (by with_unfolding_all rfl)).trans ?_
  refine (eq_ald (e := (.iaload, 1, 0, 0, 0)) (by with_unfolding_all rfl) rfl (n := 128) (by with_unfolding_all rfl) h1).trans ?_
  refine (eq_run 4 (q := (155, [.ref 205, .int x1, .int x2], [.int (M 206 0), .int (M 223 x2.toNatClampNeg)], hp nS M)) (by with_unfolding_all rfl)).trans ?_
  exact eq_cmp_ne (by with_unfolding_all rfl)
set_option maxRecDepth 20000 in
theorem b_229_158 {d nS : Nat} {x1 x2 : Int32} {M : am_M} {Q : Option Value → am_H → Prop} (h1 : vp_in (x2 + 1) 128) : am_Wp (d + 1) 229 158 [.ref 205, .int x1, .int x2] [] (hp nS M) Q = am_Wp d 221 0 [.ref 205, .int (M 223 (x2 + 1).toNatClampNeg)] [] (hp nS M) (fun v h1 => am_Wp (d + 1) 229 170 [.ref 205, .int x1, .int x2] (am_ans v []) h1 Q) := by
  refine (eq_run 6 (q := (166, [.ref 205, .int x1, .int x2], [.int (x2 + 1), .ref 223, .ref 205], hp nS M)) (by with_unfolding_all rfl)).trans ?_
  refine (eq_ald (e := (.iaload, 1, 0, 0, 0)) (by with_unfolding_all rfl) rfl (n := 128) (by with_unfolding_all rfl) h1).trans ?_
  exact eq_call2 (e := (.invokevirtual 343, 3, 0, 221, 323)) (as := [.ref 205, .int (M 223 (x2 + 1).toNatClampNeg)]) (r := []) (n := 2) (m := 2) (by with_unfolding_all rfl) rfl (by decide) (by with_unfolding_all rfl) (by decide) (by with_unfolding_all rfl) ⟨fun _ => am_rec_ok (c := 14) (by with_unfolding_all rfl) (by decide +kernel), fun z => by simp at z⟩
set_option maxRecDepth 20000 in
theorem b_229_170 {d nS : Nat} {x1 x2 s0 : Int32} {M : am_M} {Q : Option Value → am_H → Prop} : am_Wp d 229 170 [.ref 205, .int x1, .int x2] [.int s0] (hp nS M) Q = if ¬ s0 = 0 then am_Wp d 229 201 [.ref 205, .int x1, .int x2] [] (hp nS M) Q else am_Wp d 229 173 [.ref 205, .int x1, .int x2] [] (hp nS M) Q := by
  exact eq_if_ne (by with_unfolding_all rfl)
set_option maxRecDepth 20000 in
theorem b_229_173 {d nS : Nat} {x1 x2 : Int32} {M : am_M} {Q : Option Value → am_H → Prop} (h1 : vp_in (x2 + 1) 128) (h2 : vp_in (x2 + 3) 128) (h3 : vp_in (x2 + 2) 128) : am_Wp (d + 1) 229 173 [.ref 205, .int x1, .int x2] [] (hp nS M) Q = am_Wp d 224 0 [.ref 205, .int (M 223 (x2 + 1).toNatClampNeg), .int (M 223 (x2 + 3).toNatClampNeg), .int (M 223 (x2 + 2).toNatClampNeg), .retAddr 0, .retAddr 0, .retAddr 0] [] (hp nS M) (fun v h1 => am_Wp (d + 1) 229 201 [.ref 205, .int x1, .int x2] (am_ans v []) h1 Q) := by
  refine (eq_run 6 (q := (181, [.ref 205, .int x1, .int x2], [.int (x2 + 1), .ref 223, .ref 205], hp nS M)) (by with_unfolding_all rfl)).trans ?_
  refine (eq_ald (e := (.iaload, 1, 0, 0, 0)) (by with_unfolding_all rfl) rfl (n := 128) (by with_unfolding_all rfl) h1).trans ?_
  refine (eq_run 5 (q := (189, [.ref 205, .int x1, .int x2], [.int (x2 + 3), .ref 223, .int (M 223 (x2 + 1).toNatClampNeg), .ref 205], hp nS M)) (by with_unfolding_all rfl)).trans ?_
  refine (eq_ald (e := (.iaload, 1, 0, 0, 0)) (by with_unfolding_all rfl) rfl (n := 128) (by with_unfolding_all rfl) h2).trans ?_
  refine (eq_run 5 (q := (197, [.ref 205, .int x1, .int x2], [.int (x2 + 2), .ref 223, .int (M 223 (x2 + 3).toNatClampNeg), .int (M 223 (x2 + 1).toNatClampNeg), .ref 205], hp nS M)) (by with_unfolding_all rfl)).trans ?_
  refine (eq_ald (e := (.iaload, 1, 0, 0, 0)) (by with_unfolding_all rfl) rfl (n := 128) (by with_unfolding_all rfl) h3).trans ?_
  exact eq_call2 (e := (.invokevirtual 358, 3, 0, 224, 328)) (as := [.ref 205, .int (M 223 (x2 + 1).toNatClampNeg), .int (M 223 (x2 + 3).toNatClampNeg), .int (M 223 (x2 + 2).toNatClampNeg)]) (r := []) (n := 4) (m := 7) (by with_unfolding_all rfl) rfl (by decide) (by with_unfolding_all rfl) (by decide) (by with_unfolding_all rfl) ⟨fun _ => am_rec_ok (c := 14) (by with_unfolding_all rfl) (by decide +kernel), fun z => by simp at z⟩
set_option maxRecDepth 20000 in
theorem b_229_201 {d nS : Nat} {x1 x2 : Int32} {M : am_M} {Q : Option Value → am_H → Prop} : am_Wp d 229 201 [.ref 205, .int x1, .int x2] [] (hp nS M) Q = am_Wp d 229 133 [.ref 205, .int x1, .int (x2 + 4)] [] (hp nS M) Q := by
  exact eq_run 5 (q := (133, [.ref 205, .int x1, .int (x2 + 4)], [], hp nS M)) (by with_unfolding_all rfl)
set_option maxRecDepth 20000 in
theorem b_229_208 {d nS : Nat} {x1 x2 : Int32} {M : am_M} {Q : Option Value → am_H → Prop} : am_Wp d 229 208 [.ref 205, .int x1, .int x2] [] (hp nS M) Q = am_Wp d 229 210 [.ref 205, .int x1, .int 0] [] (hp nS M) Q := by
  exact eq_run 2 (q := (210, [.ref 205, .int x1, .int 0], [], hp nS M)) (by with_unfolding_all rfl)
set_option maxRecDepth 20000 in
theorem b_229_210 {d nS : Nat} {x1 x2 : Int32} {M : am_M} {Q : Option Value → am_H → Prop} : am_Wp d 229 210 [.ref 205, .int x1, .int x2] [] (hp nS M) Q = if (M 205 10) ≤ x2 then am_Wp d 229 268 [.ref 205, .int x1, .int x2] [] (hp nS M) Q else am_Wp d 229 218 [.ref 205, .int x1, .int x2] [] (hp nS M) Q := by
  refine (eq_run 3 (q := (215, [.ref 205, .int x1, .int x2], [.int (M 205 10), .int x2], hp nS M)) (by with_unfolding_all rfl)).trans ?_
  exact eq_cmp_ge (by with_unfolding_all rfl)
set_option maxRecDepth 20000 in
theorem b_229_218 {d nS : Nat} {x1 x2 : Int32} {M : am_M} {Q : Option Value → am_H → Prop} : am_Wp (d + 1) 229 218 [.ref 205, .int x1, .int x2] [] (hp nS M) Q = am_Wp d 221 0 [.ref 205, .int x2] [] (hp nS M) (fun v h1 => am_Wp (d + 1) 229 223 [.ref 205, .int x1, .int x2] (am_ans v []) h1 Q) := by
  refine (eq_run 2 (q := (220, [.ref 205, .int x1, .int x2], [.int x2, .ref 205], hp nS M)) (by with_unfolding_all rfl)).trans ?_
  exact eq_call2 (e := (.invokevirtual 343, 3, 0, 221, 323)) (as := [.ref 205, .int x2]) (r := []) (n := 2) (m := 2) (by with_unfolding_all rfl) rfl (by decide) (by with_unfolding_all rfl) (by decide) (by with_unfolding_all rfl) ⟨fun _ => am_rec_ok (c := 14) (by with_unfolding_all rfl) (by decide +kernel), fun z => by simp at z⟩
set_option maxRecDepth 20000 in
theorem b_229_223 {d nS : Nat} {x1 x2 s0 : Int32} {M : am_M} {Q : Option Value → am_H → Prop} : am_Wp d 229 223 [.ref 205, .int x1, .int x2] [.int s0] (hp nS M) Q = if ¬ s0 = 0 then am_Wp d 229 262 [.ref 205, .int x1, .int x2] [] (hp nS M) Q else am_Wp d 229 226 [.ref 205, .int x1, .int x2] [] (hp nS M) Q := by
  exact eq_if_ne (by with_unfolding_all rfl)
set_option maxRecDepth 20000 in
theorem b_229_226 {d nS : Nat} {x1 x2 : Int32} {M : am_M} {Q : Option Value → am_H → Prop} : am_Wp (d + 1) 229 226 [.ref 205, .int x1, .int x2] [] (hp nS M) Q = am_Wp d 244 0 [.ref 205, .int x2, .retAddr 0, .retAddr 0] [] (hp nS M) (fun v h1 => am_Wp (d + 1) 229 231 [.ref 205, .int x1, .int x2] (am_ans v []) h1 Q) := by
  refine (eq_run 2 (q := (228, [.ref 205, .int x1, .int x2], [.int x2, .ref 205], hp nS M)) (by with_unfolding_all rfl)).trans ?_
  exact eq_call2 (e := (.invokevirtual 389, 3, 0, 244, 338)) (as := [.ref 205, .int x2]) (r := []) (n := 2) (m := 4) (by with_unfolding_all rfl) rfl (by decide) (by with_unfolding_all rfl) (by decide) (by with_unfolding_all rfl) ⟨fun _ => am_rec_ok (c := 14) (by with_unfolding_all rfl) (by decide +kernel), fun z => by simp at z⟩
set_option maxRecDepth 20000 in
theorem b_229_231 {d nS : Nat} {x1 x2 s0 : Int32} {M : am_M} {Q : Option Value → am_H → Prop} : am_Wp d 229 231 [.ref 205, .int x1, .int x2] [.int s0] (hp nS M) Q = if ¬ s0 = 0 then am_Wp d 229 237 [.ref 205, .int x1, .int x2] [] (hp nS M) Q else am_Wp d 229 234 [.ref 205, .int x1, .int x2] [] (hp nS M) Q := by
  exact eq_if_ne (by with_unfolding_all rfl)
set_option maxRecDepth 20000 in
theorem b_229_234 {d nS : Nat} {x1 x2 : Int32} {M : am_M} {Q : Option Value → am_H → Prop} : am_Wp d 229 234 [.ref 205, .int x1, .int x2] [] (hp nS M) Q = am_Wp d 229 262 [.ref 205, .int x1, .int x2] [] (hp nS M) Q := by
  exact eq_run 1 (q := (262, [.ref 205, .int x1, .int x2], [], hp nS M)) (by with_unfolding_all rfl)
set_option maxRecDepth 20000 in
theorem b_229_237 {d nS : Nat} {x1 x2 : Int32} {M : am_M} {Q : Option Value → am_H → Prop} (h1 : vp_in (46 + x2) 136) (h2 : vp_in (36 + x2) 136) : am_Wp (d + 1) 229 237 [.ref 205, .int x1, .int x2] [] (hp nS M) Q = am_Wp d 226 0 [.ref 205, .int 4, .int x2, .int ((am_up M 206 (46 + x2).toNatClampNeg 1) 206 (36 + x2).toNatClampNeg), .retAddr 0] [] (hp nS (am_up M 206 (46 + x2).toNatClampNeg 1)) (fun v h1 => am_Wp (d + 1) 229 262 [.ref 205, .int x1, .int x2] (am_ans v []) h1 Q) := by
  refine (eq_run 6 (q := (246, [.ref 205, .int x1, .int x2], [.int 1, .int (46 + x2), .ref 206], hp nS M)) (by with_unfolding_all rfl)).trans ?_
  refine (eq_ast (e := (.iastore, 1, 0, 0, 0)) (by with_unfolding_all rfl) rfl (n := 136) (by with_unfolding_all rfl) (by decide) h1).trans ?_
  refine (eq_run 8 (q := (258, [.ref 205, .int x1, .int x2], [.int (36 + x2), .ref 206, .int x2, .int 4, .ref 205], hp nS (am_up M 206 (46 + x2).toNatClampNeg 1))) (by with_unfolding_all rfl)).trans ?_
  refine (eq_ald (e := (.iaload, 1, 0, 0, 0)) (by with_unfolding_all rfl) rfl (n := 136) (by with_unfolding_all rfl) h2).trans ?_
  exact eq_call2 (e := (.invokevirtual 339, 3, 0, 226, 322)) (as := [.ref 205, .int 4, .int x2, .int ((am_up M 206 (46 + x2).toNatClampNeg 1) 206 (36 + x2).toNatClampNeg)]) (r := []) (n := 4) (m := 5) (by with_unfolding_all rfl) rfl (by decide) (by with_unfolding_all rfl) (by decide) (by with_unfolding_all rfl) ⟨fun _ => am_rec_ok (c := 14) (by with_unfolding_all rfl) (by decide +kernel), fun z => by simp at z⟩
set_option maxRecDepth 20000 in
theorem b_229_262 {d nS : Nat} {x1 x2 : Int32} {M : am_M} {Q : Option Value → am_H → Prop} : am_Wp d 229 262 [.ref 205, .int x1, .int x2] [] (hp nS M) Q = am_Wp d 229 210 [.ref 205, .int x1, .int (x2 + 1)] [] (hp nS M) Q := by
  exact eq_run 2 (q := (210, [.ref 205, .int x1, .int (x2 + 1)], [], hp nS M)) (by with_unfolding_all rfl)
set_option maxRecDepth 20000 in
theorem b_229_268 {d nS : Nat} {x1 x2 : Int32} {M : am_M} {Q : Option Value → am_H → Prop} : am_Wp d 229 268 [.ref 205, .int x1, .int x2] [] (hp nS M) Q = Q (some (.int x1)) (hp nS (am_up M 206 0 ((M 206 0) + 1))) := by
  refine (eq_run 11 (q := (283, [.ref 205, .int x1, .int x2], [.int x1], hp nS (am_up M 206 0 ((M 206 0) + 1)))) (by with_unfolding_all rfl)).trans ?_
  exact eq_retI2 (e := (.ireturn, 1, 0, 0, 0)) (t := .int) (by with_unfolding_all rfl) rfl (by with_unfolding_all rfl) rfl
-- does(I)V
set_option maxRecDepth 20000 in
theorem b_230_0 {d nS : Nat} {x1 : Int32} {M : am_M} {Q : Option Value → am_H → Prop} (h1 : vp_in (x1 + 2) 128) (h2 : vp_in (x1 + 1) 128) : am_Wp d 230 0 [.ref 205, .int x1, .retAddr 0] [] (hp nS M) Q = if ¬ (M 222 (x1 + 1).toNatClampNeg) = 0 then am_Wp d 230 53 [.ref 205, .int x1, .int (M 222 (x1 + 2).toNatClampNeg)] [] (hp nS M) Q else am_Wp d 230 20 [.ref 205, .int x1, .int (M 222 (x1 + 2).toNatClampNeg)] [] (hp nS M) Q := by
  refine (eq_run 5 (q := (7, [.ref 205, .int x1, .retAddr 0], [.int (x1 + 2), .ref 222], hp nS M)) (by with_unfolding_all rfl)).trans ?_
  refine (eq_ald (e := (.iaload, 1, 0, 0, 0)) (by with_unfolding_all rfl) rfl (n := 128) (by with_unfolding_all rfl) h1).trans ?_
  refine (eq_run 6 (q := (16, [.ref 205, .int x1, .int (M 222 (x1 + 2).toNatClampNeg)], [.int (x1 + 1), .ref 222], hp nS M)) (by with_unfolding_all rfl)).trans ?_
  refine (eq_ald (e := (.iaload, 1, 0, 0, 0)) (by with_unfolding_all rfl) rfl (n := 128) (by with_unfolding_all rfl) h2).trans ?_
  exact eq_if_ne (by with_unfolding_all rfl)
set_option maxRecDepth 20000 in
theorem b_230_20 {d nS : Nat} {x1 x2 : Int32} {M : am_M} {Q : Option Value → am_H → Prop} (h1 : vp_in (22 + x2) 136) (h2 : vp_in (x1 + 3) 128) : am_Wp (d + 1) 230 20 [.ref 205, .int x1, .int x2] [] (hp nS M) Q = am_Wp d 225 0 [.ref 205, .int 9, .int ((M 206 (22 + x2).toNatClampNeg) + (M 222 (x1 + 3).toNatClampNeg))] [] (hp nS M) (fun v h1 => am_Wp (d + 1) 230 52 [.ref 205, .int x1, .int x2] (am_ans v [.int (22 + x2), .ref 206]) h1 Q) := by
  refine (eq_run 12 (q := (39, [.ref 205, .int x1, .int x2], [.int (22 + x2), .ref 206, .int 9, .ref 205, .int (22 + x2), .ref 206], hp nS M)) (by with_unfolding_all rfl)).trans ?_
  refine (eq_ald (e := (.iaload, 1, 0, 0, 0)) (by with_unfolding_all rfl) rfl (n := 136) (by with_unfolding_all rfl) h1).trans ?_
  refine (eq_run 5 (q := (47, [.ref 205, .int x1, .int x2], [.int (x1 + 3), .ref 222, .int (M 206 (22 + x2).toNatClampNeg), .int 9, .ref 205, .int (22 + x2), .ref 206], hp nS M)) (by with_unfolding_all rfl)).trans ?_
  refine (eq_ald (e := (.iaload, 1, 0, 0, 0)) (by with_unfolding_all rfl) rfl (n := 128) (by with_unfolding_all rfl) h2).trans ?_
  refine (eq_run 1 (q := (49, [.ref 205, .int x1, .int x2], [.int ((M 206 (22 + x2).toNatClampNeg) + (M 222 (x1 + 3).toNatClampNeg)), .int 9, .ref 205, .int (22 + x2), .ref 206], hp nS M)) (by with_unfolding_all rfl)).trans ?_
  exact eq_call2 (e := (.invokevirtual 336, 3, 0, 225, 321)) (as := [.ref 205, .int 9, .int ((M 206 (22 + x2).toNatClampNeg) + (M 222 (x1 + 3).toNatClampNeg))]) (r := [.int (22 + x2), .ref 206]) (n := 3) (m := 3) (by with_unfolding_all rfl) rfl (by decide) (by with_unfolding_all rfl) (by decide) (by with_unfolding_all rfl) ⟨fun _ => am_rec_ok (c := 14) (by with_unfolding_all rfl) (by decide +kernel), fun z => by simp at z⟩
set_option maxRecDepth 20000 in
theorem b_230_52 {d nS : Nat} {x1 x2 s1 s2 : Int32} {M : am_M} {Q : Option Value → am_H → Prop} (h1 : vp_in s1 136) : am_Wp d 230 52 [.ref 205, .int x1, .int x2] [.int s2, .int s1, .ref 206] (hp nS M) Q = am_Wp d 230 53 [.ref 205, .int x1, .int x2] [] (hp nS (am_up M 206 s1.toNatClampNeg s2)) Q := by
  exact eq_ast (e := (.iastore, 1, 0, 0, 0)) (by with_unfolding_all rfl) rfl (n := 136) (by with_unfolding_all rfl) (by decide) h1
set_option maxRecDepth 20000 in
theorem b_230_53 {d nS : Nat} {x1 x2 : Int32} {M : am_M} {Q : Option Value → am_H → Prop} (h1 : vp_in (x1 + 1) 128) : am_Wp d 230 53 [.ref 205, .int x1, .int x2] [] (hp nS M) Q = if ¬ (M 222 (x1 + 1).toNatClampNeg) = 1 then am_Wp d 230 75 [.ref 205, .int x1, .int x2] [] (hp nS M) Q else am_Wp d 230 65 [.ref 205, .int x1, .int x2] [] (hp nS M) Q := by
  refine (eq_run 5 (q := (60, [.ref 205, .int x1, .int x2], [.int (x1 + 1), .ref 222], hp nS M)) (by with_unfolding_all rfl)).trans ?_
  refine (eq_ald (e := (.iaload, 1, 0, 0, 0)) (by with_unfolding_all rfl) rfl (n := 128) (by with_unfolding_all rfl) h1).trans ?_
  refine (eq_run 1 (q := (62, [.ref 205, .int x1, .int x2], [.int 1, .int (M 222 (x1 + 1).toNatClampNeg)], hp nS M)) (by with_unfolding_all rfl)).trans ?_
  exact eq_cmp_ne (by with_unfolding_all rfl)
set_option maxRecDepth 20000 in
theorem b_230_65 {d nS : Nat} {x1 x2 : Int32} {M : am_M} {Q : Option Value → am_H → Prop} (h1 : vp_in (22 + x2) 136) : am_Wp d 230 65 [.ref 205, .int x1, .int x2] [] (hp nS M) Q = am_Wp d 230 75 [.ref 205, .int x1, .int x2] [] (hp nS (am_up M 206 (22 + x2).toNatClampNeg 0)) Q := by
  refine (eq_run 6 (q := (74, [.ref 205, .int x1, .int x2], [.int 0, .int (22 + x2), .ref 206], hp nS M)) (by with_unfolding_all rfl)).trans ?_
  exact eq_ast (e := (.iastore, 1, 0, 0, 0)) (by with_unfolding_all rfl) rfl (n := 136) (by with_unfolding_all rfl) (by decide) h1
set_option maxRecDepth 20000 in
theorem b_230_75 {d nS : Nat} {x1 x2 : Int32} {M : am_M} {Q : Option Value → am_H → Prop} (h1 : vp_in (x1 + 1) 128) : am_Wp d 230 75 [.ref 205, .int x1, .int x2] [] (hp nS M) Q = if ¬ (M 222 (x1 + 1).toNatClampNeg) = 3 then am_Wp d 230 94 [.ref 205, .int x1, .int x2] [] (hp nS M) Q else am_Wp d 230 87 [.ref 205, .int x1, .int x2] [] (hp nS M) Q := by
  refine (eq_run 5 (q := (82, [.ref 205, .int x1, .int x2], [.int (x1 + 1), .ref 222], hp nS M)) (by with_unfolding_all rfl)).trans ?_
  refine (eq_ald (e := (.iaload, 1, 0, 0, 0)) (by with_unfolding_all rfl) rfl (n := 128) (by with_unfolding_all rfl) h1).trans ?_
  refine (eq_run 1 (q := (84, [.ref 205, .int x1, .int x2], [.int 3, .int (M 222 (x1 + 1).toNatClampNeg)], hp nS M)) (by with_unfolding_all rfl)).trans ?_
  exact eq_cmp_ne (by with_unfolding_all rfl)
set_option maxRecDepth 20000 in
theorem b_230_87 {d nS : Nat} {x1 x2 : Int32} {M : am_M} {Q : Option Value → am_H → Prop} : am_Wp d 230 87 [.ref 205, .int x1, .int x2] [] (hp nS M) Q = am_Wp d 230 94 [.ref 205, .int x1, .int x2] [] (hp nS (am_up M 206 3 x2)) Q := by
  exact eq_run 5 (q := (94, [.ref 205, .int x1, .int x2], [], hp nS (am_up M 206 3 x2))) (by with_unfolding_all rfl)
set_option maxRecDepth 20000 in
theorem b_230_94 {d nS : Nat} {x1 x2 : Int32} {M : am_M} {Q : Option Value → am_H → Prop} (h1 : vp_in (x1 + 1) 128) : am_Wp d 230 94 [.ref 205, .int x1, .int x2] [] (hp nS M) Q = if ¬ (M 222 (x1 + 1).toNatClampNeg) = 2 then am_Wp d 230 119 [.ref 205, .int x1, .int x2] [] (hp nS M) Q else am_Wp d 230 106 [.ref 205, .int x1, .int x2] [] (hp nS M) Q := by
  refine (eq_run 5 (q := (101, [.ref 205, .int x1, .int x2], [.int (x1 + 1), .ref 222], hp nS M)) (by with_unfolding_all rfl)).trans ?_
  refine (eq_ald (e := (.iaload, 1, 0, 0, 0)) (by with_unfolding_all rfl) rfl (n := 128) (by with_unfolding_all rfl) h1).trans ?_
  refine (eq_run 1 (q := (103, [.ref 205, .int x1, .int x2], [.int 2, .int (M 222 (x1 + 1).toNatClampNeg)], hp nS M)) (by with_unfolding_all rfl)).trans ?_
  exact eq_cmp_ne (by with_unfolding_all rfl)
set_option maxRecDepth 20000 in
theorem b_230_106 {d nS : Nat} {x1 x2 : Int32} {M : am_M} {Q : Option Value → am_H → Prop} : am_Wp (d + 1) 230 106 [.ref 205, .int x1, .int x2] [] (hp nS M) Q = am_Wp d 222 0 [.ref 205, .int x2] [] (hp nS M) (fun v h1 => am_Wp (d + 1) 230 111 [.ref 205, .int x1, .int x2] (am_ans v []) h1 Q) := by
  refine (eq_run 2 (q := (108, [.ref 205, .int x1, .int x2], [.int x2, .ref 205], hp nS M)) (by with_unfolding_all rfl)).trans ?_
  exact eq_call2 (e := (.invokevirtual 349, 3, 0, 222, 325)) (as := [.ref 205, .int x2]) (r := []) (n := 2) (m := 2) (by with_unfolding_all rfl) rfl (by decide) (by with_unfolding_all rfl) (by decide) (by with_unfolding_all rfl) ⟨fun _ => am_rec_ok (c := 14) (by with_unfolding_all rfl) (by decide +kernel), fun z => by simp at z⟩
set_option maxRecDepth 20000 in
theorem b_230_111 {d nS : Nat} {x1 x2 s0 : Int32} {M : am_M} {Q : Option Value → am_H → Prop} : am_Wp d 230 111 [.ref 205, .int x1, .int x2] [.int s0] (hp nS M) Q = if s0 = 0 then am_Wp d 230 119 [.ref 205, .int x1, .int x2] [] (hp nS M) Q else am_Wp d 230 114 [.ref 205, .int x1, .int x2] [] (hp nS M) Q := by
  exact eq_if_eq (by with_unfolding_all rfl)
set_option maxRecDepth 20000 in
theorem b_230_114 {d nS : Nat} {x1 x2 : Int32} {M : am_M} {Q : Option Value → am_H → Prop} : am_Wp (d + 1) 230 114 [.ref 205, .int x1, .int x2] [] (hp nS M) Q = am_Wp d 227 0 [.ref 205, .int x2] [] (hp nS M) (fun v h1 => am_Wp (d + 1) 230 119 [.ref 205, .int x1, .int x2] (am_ans v []) h1 Q) := by
  refine (eq_run 2 (q := (116, [.ref 205, .int x1, .int x2], [.int x2, .ref 205], hp nS M)) (by with_unfolding_all rfl)).trans ?_
  exact eq_call2 (e := (.invokevirtual 361, 3, 0, 227, 329)) (as := [.ref 205, .int x2]) (r := []) (n := 2) (m := 2) (by with_unfolding_all rfl) rfl (by decide) (by with_unfolding_all rfl) (by decide) (by with_unfolding_all rfl) ⟨fun _ => am_rec_ok (c := 14) (by with_unfolding_all rfl) (by decide +kernel), fun z => by simp at z⟩
set_option maxRecDepth 20000 in
theorem b_230_119 {d nS : Nat} {x1 x2 : Int32} {M : am_M} {Q : Option Value → am_H → Prop} : am_Wp d 230 119 [.ref 205, .int x1, .int x2] [] (hp nS M) Q = Q none (hp nS M) := by
  exact eq_retV2 (e := (.return_, 1, 0, 0, 0)) (by with_unfolding_all rfl) rfl (by with_unfolding_all rfl)
-- sings(I)Z
set_option maxRecDepth 20000 in
theorem b_231_0 {d nS : Nat} {x1 : Int32} {M : am_M} {Q : Option Value → am_H → Prop} (h1 : vp_in (4 + x1) 136) : am_Wp d 231 0 [.ref 205, .int x1, .retAddr 0, .retAddr 0] [] (hp nS M) Q = am_Wp d 231 13 [.ref 205, .int x1, .int 0, .int 0] [] (hp nS (am_up M 206 (4 + x1).toNatClampNeg 0)) Q := by
  refine (eq_run 6 (q := (8, [.ref 205, .int x1, .retAddr 0, .retAddr 0], [.int 0, .int (4 + x1), .ref 206], hp nS M)) (by with_unfolding_all rfl)).trans ?_
  refine (eq_ast (e := (.iastore, 1, 0, 0, 0)) (by with_unfolding_all rfl) rfl (n := 136) (by with_unfolding_all rfl) (by decide) h1).trans ?_
  exact eq_run 4 (q := (13, [.ref 205, .int x1, .int 0, .int 0], [], hp nS (am_up M 206 (4 + x1).toNatClampNeg 0))) (by with_unfolding_all rfl)
set_option maxRecDepth 20000 in
theorem b_231_13 {d nS : Nat} {x1 x2 x3 : Int32} {M : am_M} {Q : Option Value → am_H → Prop} : am_Wp d 231 13 [.ref 205, .int x1, .int x2, .int x3] [] (hp nS M) Q = if 30 ≤ x3 then am_Wp d 231 100 [.ref 205, .int x1, .int x2, .int x3] [] (hp nS M) Q else am_Wp d 231 19 [.ref 205, .int x1, .int x2, .int x3] [] (hp nS M) Q := by
  refine (eq_run 2 (q := (16, [.ref 205, .int x1, .int x2, .int x3], [.int 30, .int x3], hp nS M)) (by with_unfolding_all rfl)).trans ?_
  exact eq_cmp_ge (by with_unfolding_all rfl)
set_option maxRecDepth 20000 in
theorem b_231_19 {d nS : Nat} {x1 x2 x3 : Int32} {M : am_M} {Q : Option Value → am_H → Prop} : am_Wp d 231 19 [.ref 205, .int x1, .int x2, .int x3] [] (hp nS M) Q = if ¬ x2 = 0 then am_Wp d 231 100 [.ref 205, .int x1, .int x2, .int x3] [] (hp nS M) Q else am_Wp d 231 23 [.ref 205, .int x1, .int x2, .int x3] [] (hp nS M) Q := by
  refine (eq_run 1 (q := (20, [.ref 205, .int x1, .int x2, .int x3], [.int x2], hp nS M)) (by with_unfolding_all rfl)).trans ?_
  exact eq_if_ne (by with_unfolding_all rfl)
set_option maxRecDepth 20000 in
theorem b_231_23 {d nS : Nat} {x1 x2 x3 : Int32} {M : am_M} {Q : Option Value → am_H → Prop} (h1 : vp_in (4 + x1) 136) : am_Wp (d + 1) 231 23 [.ref 205, .int x1, .int x2, .int x3] [] (hp nS M) Q = am_Wp d 232 0 [.ref 205, .int x1, .int x3] [] (hp nS M) (fun v h1 => am_Wp (d + 1) 231 48 [.ref 205, .int x1, .int x2, .int x3] (am_ans v [.int (M 206 (4 + x1).toNatClampNeg), .int 999, .ref 205, .int (4 + x1), .ref 206]) h1 Q) := by
  refine (eq_run 12 (q := (41, [.ref 205, .int x1, .int x2, .int x3], [.int (4 + x1), .ref 206, .int 999, .ref 205, .int (4 + x1), .ref 206], hp nS M)) (by with_unfolding_all rfl)).trans ?_
  refine (eq_ald (e := (.iaload, 1, 0, 0, 0)) (by with_unfolding_all rfl) rfl (n := 136) (by with_unfolding_all rfl) h1).trans ?_
  refine (eq_run 3 (q := (45, [.ref 205, .int x1, .int x2, .int x3], [.int x3, .int x1, .ref 205, .int (M 206 (4 + x1).toNatClampNeg), .int 999, .ref 205, .int (4 + x1), .ref 206], hp nS M)) (by with_unfolding_all rfl)).trans ?_
  exact eq_call2 (e := (.invokevirtual 367, 3, 0, 232, 331)) (as := [.ref 205, .int x1, .int x3]) (r := [.int (M 206 (4 + x1).toNatClampNeg), .int 999, .ref 205, .int (4 + x1), .ref 206]) (n := 3) (m := 3) (by with_unfolding_all rfl) rfl (by decide) (by with_unfolding_all rfl) (by decide) (by with_unfolding_all rfl) ⟨fun _ => am_rec_ok (c := 14) (by with_unfolding_all rfl) (by decide +kernel), fun z => by simp at z⟩
set_option maxRecDepth 20000 in
theorem b_231_48 {d nS : Nat} {x1 x2 x3 s1 s3 s4 s5 : Int32} {M : am_M} {Q : Option Value → am_H → Prop} : am_Wp (d + 1) 231 48 [.ref 205, .int x1, .int x2, .int x3] [.int s5, .int s4, .int s3, .ref 205, .int s1, .ref 206] (hp nS M) Q = am_Wp d 225 0 [.ref 205, .int s3, .int (s4 + s5)] [] (hp nS M) (fun v h1 => am_Wp (d + 1) 231 52 [.ref 205, .int x1, .int x2, .int x3] (am_ans v [.int s1, .ref 206]) h1 Q) := by
  refine (eq_run 1 (q := (49, [.ref 205, .int x1, .int x2, .int x3], [.int (s4 + s5), .int s3, .ref 205, .int s1, .ref 206], hp nS M)) (by with_unfolding_all rfl)).trans ?_
  exact eq_call2 (e := (.invokevirtual 336, 3, 0, 225, 321)) (as := [.ref 205, .int s3, .int (s4 + s5)]) (r := [.int s1, .ref 206]) (n := 3) (m := 3) (by with_unfolding_all rfl) rfl (by decide) (by with_unfolding_all rfl) (by decide) (by with_unfolding_all rfl) ⟨fun _ => am_rec_ok (c := 14) (by with_unfolding_all rfl) (by decide +kernel), fun z => by simp at z⟩
set_option maxRecDepth 20000 in
theorem b_231_52 {d nS : Nat} {x1 x2 x3 s1 s2 : Int32} {M : am_M} {Q : Option Value → am_H → Prop} (h1 : vp_in s1 136) (h2 : vp_in (10 + x1) 136) (h3 : vp_in (4 + x1) 136) : am_Wp (d + 1) 231 52 [.ref 205, .int x1, .int x2, .int x3] [.int s2, .int s1, .ref 206] (hp nS M) Q = am_Wp d 239 0 [.ref 205, .int ((am_up M 206 s1.toNatClampNeg s2) 206 (10 + x1).toNatClampNeg), .int ((am_up M 206 s1.toNatClampNeg s2) 206 (4 + x1).toNatClampNeg)] [] (hp nS (am_up M 206 s1.toNatClampNeg s2)) (fun v h1 => am_Wp (d + 1) 231 82 [.ref 205, .int x1, .int x2, .int x3] (am_ans v [.int (10 + x1), .ref 206]) h1 Q) := by
  refine (eq_ast (e := (.iastore, 1, 0, 0, 0)) (by with_unfolding_all rfl) rfl (n := 136) (by with_unfolding_all rfl) (by decide) h1).trans ?_
  refine (eq_run 11 (q := (70, [.ref 205, .int x1, .int x2, .int x3], [.int (10 + x1), .ref 206, .ref 205, .int (10 + x1), .ref 206], hp nS (am_up M 206 s1.toNatClampNeg s2))) (by with_unfolding_all rfl)).trans ?_
  refine (eq_ald (e := (.iaload, 1, 0, 0, 0)) (by with_unfolding_all rfl) rfl (n := 136) (by with_unfolding_all rfl) h2).trans ?_
  refine (eq_run 5 (q := (78, [.ref 205, .int x1, .int x2, .int x3], [.int (4 + x1), .ref 206, .int ((am_up M 206 s1.toNatClampNeg s2) 206 (10 + x1).toNatClampNeg), .ref 205, .int (10 + x1), .ref 206], hp nS (am_up M 206 s1.toNatClampNeg s2))) (by with_unfolding_all rfl)).trans ?_
  refine (eq_ald (e := (.iaload, 1, 0, 0, 0)) (by with_unfolding_all rfl) rfl (n := 136) (by with_unfolding_all rfl) h3).trans ?_
  exact eq_call2 (e := (.invokevirtual 370, 3, 0, 239, 332)) (as := [.ref 205, .int ((am_up M 206 s1.toNatClampNeg s2) 206 (10 + x1).toNatClampNeg), .int ((am_up M 206 s1.toNatClampNeg s2) 206 (4 + x1).toNatClampNeg)]) (r := [.int (10 + x1), .ref 206]) (n := 3) (m := 3) (by with_unfolding_all rfl) rfl (by decide) (by with_unfolding_all rfl) (by decide) (by with_unfolding_all rfl) ⟨fun _ => am_rec_ok (c := 14) (by with_unfolding_all rfl) (by decide +kernel), fun z => by simp at z⟩
set_option maxRecDepth 20000 in
theorem b_231_82 {d nS : Nat} {x1 x2 x3 s1 s2 : Int32} {M : am_M} {Q : Option Value → am_H → Prop} (h1 : vp_in s1 136) : am_Wp (d + 1) 231 82 [.ref 205, .int x1, .int x2, .int x3] [.int s2, .int s1, .ref 206] (hp nS M) Q = am_Wp d 240 0 [.ref 205, .int x1, .int x3] [] (hp nS (am_up M 206 s1.toNatClampNeg s2)) (fun v h1 => am_Wp (d + 1) 231 90 [.ref 205, .int x1, .int x2, .int x3] (am_ans v [.ref 205]) h1 Q) := by
  refine (eq_ast (e := (.iastore, 1, 0, 0, 0)) (by with_unfolding_all rfl) rfl (n := 136) (by with_unfolding_all rfl) (by decide) h1).trans ?_
  refine (eq_run 4 (q := (87, [.ref 205, .int x1, .int x2, .int x3], [.int x3, .int x1, .ref 205, .ref 205], hp nS (am_up M 206 s1.toNatClampNeg s2))) (by with_unfolding_all rfl)).trans ?_
  exact eq_call2 (e := (.invokevirtual 373, 3, 0, 240, 333)) (as := [.ref 205, .int x1, .int x3]) (r := [.ref 205]) (n := 3) (m := 3) (by with_unfolding_all rfl) rfl (by decide) (by with_unfolding_all rfl) (by decide) (by with_unfolding_all rfl) ⟨fun _ => am_rec_ok (c := 14) (by with_unfolding_all rfl) (by decide +kernel), fun z => by simp at z⟩
set_option maxRecDepth 20000 in
theorem b_231_90 {d nS : Nat} {x1 x2 x3 s1 : Int32} {M : am_M} {Q : Option Value → am_H → Prop} : am_Wp (d + 1) 231 90 [.ref 205, .int x1, .int x2, .int x3] [.int s1, .ref 205] (hp nS M) Q = am_Wp d 241 0 [.ref 205, .int s1] [] (hp nS M) (fun v h1 => am_Wp (d + 1) 231 93 [.ref 205, .int x1, .int x2, .int x3] (am_ans v []) h1 Q) := by
  exact eq_call2 (e := (.invokevirtual 376, 3, 0, 241, 334)) (as := [.ref 205, .int s1]) (r := []) (n := 2) (m := 2) (by with_unfolding_all rfl) rfl (by decide) (by with_unfolding_all rfl) (by decide) (by with_unfolding_all rfl) ⟨fun _ => am_rec_ok (c := 14) (by with_unfolding_all rfl) (by decide +kernel), fun z => by simp at z⟩
set_option maxRecDepth 20000 in
theorem b_231_93 {d nS : Nat} {x1 x2 x3 s0 : Int32} {M : am_M} {Q : Option Value → am_H → Prop} : am_Wp d 231 93 [.ref 205, .int x1, .int x2, .int x3] [.int s0] (hp nS M) Q = am_Wp d 231 13 [.ref 205, .int x1, .int s0, .int (x3 + 1)] [] (hp nS M) Q := by
  exact eq_run 3 (q := (13, [.ref 205, .int x1, .int s0, .int (x3 + 1)], [], hp nS M)) (by with_unfolding_all rfl)
set_option maxRecDepth 20000 in
theorem b_231_100 {d nS : Nat} {x1 x2 x3 : Int32} {M : am_M} {Q : Option Value → am_H → Prop} : am_Wp d 231 100 [.ref 205, .int x1, .int x2, .int x3] [] (hp nS M) Q = if x2 = 0 then am_Wp d 231 118 [.ref 205, .int x1, .int x2, .int x3] [] (hp nS M) Q else am_Wp d 231 104 [.ref 205, .int x1, .int x2, .int x3] [] (hp nS M) Q := by
  refine (eq_run 1 (q := (101, [.ref 205, .int x1, .int x2, .int x3], [.int x2], hp nS M)) (by with_unfolding_all rfl)).trans ?_
  exact eq_if_eq (by with_unfolding_all rfl)
set_option maxRecDepth 20000 in
theorem b_231_104 {d nS : Nat} {x1 x2 x3 : Int32} {M : am_M} {Q : Option Value → am_H → Prop} (h1 : vp_in (4 + x1) 136) : am_Wp (d + 1) 231 104 [.ref 205, .int x1, .int x2, .int x3] [] (hp nS M) Q = am_Wp d 226 0 [.ref 205, .int 0, .int x1, .int (M 206 (4 + x1).toNatClampNeg), .retAddr 0] [] (hp nS M) (fun v h1 => am_Wp (d + 1) 231 118 [.ref 205, .int x1, .int x2, .int x3] (am_ans v []) h1 Q) := by
  refine (eq_run 8 (q := (114, [.ref 205, .int x1, .int x2, .int x3], [.int (4 + x1), .ref 206, .int x1, .int 0, .ref 205], hp nS M)) (by with_unfolding_all rfl)).trans ?_
  refine (eq_ald (e := (.iaload, 1, 0, 0, 0)) (by with_unfolding_all rfl) rfl (n := 136) (by with_unfolding_all rfl) h1).trans ?_
  exact eq_call2 (e := (.invokevirtual 339, 3, 0, 226, 322)) (as := [.ref 205, .int 0, .int x1, .int (M 206 (4 + x1).toNatClampNeg)]) (r := []) (n := 4) (m := 5) (by with_unfolding_all rfl) rfl (by decide) (by with_unfolding_all rfl) (by decide) (by with_unfolding_all rfl) ⟨fun _ => am_rec_ok (c := 14) (by with_unfolding_all rfl) (by decide +kernel), fun z => by simp at z⟩
set_option maxRecDepth 20000 in
theorem b_231_118 {d nS : Nat} {x1 x2 x3 : Int32} {M : am_M} {Q : Option Value → am_H → Prop} : am_Wp d 231 118 [.ref 205, .int x1, .int x2, .int x3] [] (hp nS M) Q = if ¬ x2 = 0 then am_Wp d 231 160 [.ref 205, .int x1, .int x2, .int x3] [] (hp nS M) Q else am_Wp d 231 122 [.ref 205, .int x1, .int x2, .int x3] [] (hp nS M) Q := by
  refine (eq_run 1 (q := (119, [.ref 205, .int x1, .int x2, .int x3], [.int x2], hp nS M)) (by with_unfolding_all rfl)).trans ?_
  exact eq_if_ne (by with_unfolding_all rfl)
set_option maxRecDepth 20000 in
theorem b_231_122 {d nS : Nat} {x1 x2 x3 : Int32} {M : am_M} {Q : Option Value → am_H → Prop} (h1 : vp_in (4 + x1) 136) : am_Wp d 231 122 [.ref 205, .int x1, .int x2, .int x3] [] (hp nS M) Q = if (M 206 (4 + x1).toNatClampNeg) < 500 then am_Wp d 231 160 [.ref 205, .int x1, .int x2, .int x3] [] (hp nS M) Q else am_Wp d 231 136 [.ref 205, .int x1, .int x2, .int x3] [] (hp nS M) Q := by
  refine (eq_run 5 (q := (129, [.ref 205, .int x1, .int x2, .int x3], [.int (4 + x1), .ref 206], hp nS M)) (by with_unfolding_all rfl)).trans ?_
  refine (eq_ald (e := (.iaload, 1, 0, 0, 0)) (by with_unfolding_all rfl) rfl (n := 136) (by with_unfolding_all rfl) h1).trans ?_
  refine (eq_run 1 (q := (133, [.ref 205, .int x1, .int x2, .int x3], [.int 500, .int (M 206 (4 + x1).toNatClampNeg)], hp nS M)) (by with_unfolding_all rfl)).trans ?_
  exact eq_cmp_lt (by with_unfolding_all rfl)
set_option maxRecDepth 20000 in
theorem b_231_136 {d nS : Nat} {x1 x2 x3 : Int32} {M : am_M} {Q : Option Value → am_H → Prop} (h1 : vp_in (16 + x1) 136) (h2 : vp_in (4 + x1) 136) : am_Wp (d + 1) 231 136 [.ref 205, .int x1, .int x2, .int x3] [] (hp nS M) Q = am_Wp d 226 0 [.ref 205, .int 1, .int x1, .int ((am_up M 206 (16 + x1).toNatClampNeg 1) 206 (4 + x1).toNatClampNeg), .retAddr 0] [] (hp nS (am_up M 206 (16 + x1).toNatClampNeg 1)) (fun v h1 => am_Wp (d + 1) 231 160 [.ref 205, .int x1, .int x2, .int x3] (am_ans v []) h1 Q) := by
  refine (eq_run 6 (q := (145, [.ref 205, .int x1, .int x2, .int x3], [.int 1, .int (16 + x1), .ref 206], hp nS M)) (by with_unfolding_all rfl)).trans ?_
  refine (eq_ast (e := (.iastore, 1, 0, 0, 0)) (by with_unfolding_all rfl) rfl (n := 136) (by with_unfolding_all rfl) (by decide) h1).trans ?_
  refine (eq_run 8 (q := (156, [.ref 205, .int x1, .int x2, .int x3], [.int (4 + x1), .ref 206, .int x1, .int 1, .ref 205], hp nS (am_up M 206 (16 + x1).toNatClampNeg 1))) (by with_unfolding_all rfl)).trans ?_
  refine (eq_ald (e := (.iaload, 1, 0, 0, 0)) (by with_unfolding_all rfl) rfl (n := 136) (by with_unfolding_all rfl) h2).trans ?_
  exact eq_call2 (e := (.invokevirtual 339, 3, 0, 226, 322)) (as := [.ref 205, .int 1, .int x1, .int ((am_up M 206 (16 + x1).toNatClampNeg 1) 206 (4 + x1).toNatClampNeg)]) (r := []) (n := 4) (m := 5) (by with_unfolding_all rfl) rfl (by decide) (by with_unfolding_all rfl) (by decide) (by with_unfolding_all rfl) ⟨fun _ => am_rec_ok (c := 14) (by with_unfolding_all rfl) (by decide +kernel), fun z => by simp at z⟩
set_option maxRecDepth 20000 in
theorem b_231_160 {d nS : Nat} {x1 x2 x3 : Int32} {M : am_M} {Q : Option Value → am_H → Prop} (h1 : vp_in (22 + x1) 136) : am_Wp (d + 1) 231 160 [.ref 205, .int x1, .int x2, .int x3] [] (hp nS M) Q = am_Wp d 239 0 [.ref 205, .int 0, .int ((M 206 (22 + x1).toNatClampNeg) - 1)] [] (hp nS M) (fun v h1 => am_Wp (d + 1) 231 184 [.ref 205, .int x1, .int x2, .int x3] (am_ans v [.int (22 + x1), .ref 206]) h1 Q) := by
  refine (eq_run 12 (q := (178, [.ref 205, .int x1, .int x2, .int x3], [.int (22 + x1), .ref 206, .int 0, .ref 205, .int (22 + x1), .ref 206], hp nS M)) (by with_unfolding_all rfl)).trans ?_
  refine (eq_ald (e := (.iaload, 1, 0, 0, 0)) (by with_unfolding_all rfl) rfl (n := 136) (by with_unfolding_all rfl) h1).trans ?_
  refine (eq_run 2 (q := (181, [.ref 205, .int x1, .int x2, .int x3], [.int ((M 206 (22 + x1).toNatClampNeg) - 1), .int 0, .ref 205, .int (22 + x1), .ref 206], hp nS M)) (by with_unfolding_all rfl)).trans ?_
  exact eq_call2 (e := (.invokevirtual 370, 3, 0, 239, 332)) (as := [.ref 205, .int 0, .int ((M 206 (22 + x1).toNatClampNeg) - 1)]) (r := [.int (22 + x1), .ref 206]) (n := 3) (m := 3) (by with_unfolding_all rfl) rfl (by decide) (by with_unfolding_all rfl) (by decide) (by with_unfolding_all rfl) ⟨fun _ => am_rec_ok (c := 14) (by with_unfolding_all rfl) (by decide +kernel), fun z => by simp at z⟩
set_option maxRecDepth 20000 in
theorem b_231_184 {d nS : Nat} {x1 x2 x3 s1 s2 : Int32} {M : am_M} {Q : Option Value → am_H → Prop} (h1 : vp_in s1 136) (h2 : am_rok .boolean x2 = true) : am_Wp d 231 184 [.ref 205, .int x1, .int x2, .int x3] [.int s2, .int s1, .ref 206] (hp nS M) Q = Q (some (.int x2)) (hp nS (am_up M 206 s1.toNatClampNeg s2)) := by
  refine (eq_ast (e := (.iastore, 1, 0, 0, 0)) (by with_unfolding_all rfl) rfl (n := 136) (by with_unfolding_all rfl) (by decide) h1).trans ?_
  refine (eq_run 1 (q := (186, [.ref 205, .int x1, .int x2, .int x3], [.int x2], hp nS (am_up M 206 s1.toNatClampNeg s2))) (by with_unfolding_all rfl)).trans ?_
  exact eq_retI2 (e := (.ireturn, 1, 0, 0, 0)) (t := .boolean) (by with_unfolding_all rfl) rfl (by with_unfolding_all rfl) h2
-- risesOf(II)I
set_option maxRecDepth 20000 in
theorem b_232_0 {d nS : Nat} {x1 x2 : Int32} {M : am_M} {Q : Option Value → am_H → Prop} : am_Wp (d + 1) 232 0 [.ref 205, .int x1, .int x2] [] (hp nS M) Q = am_Wp d 233 0 [.ref 205, .int x1, .int x2] [] (hp nS M) (fun v h1 => am_Wp (d + 1) 232 6 [.ref 205, .int x1, .int x2] (am_ans v []) h1 Q) := by
  refine (eq_run 3 (q := (3, [.ref 205, .int x1, .int x2], [.int x2, .int x1, .ref 205], hp nS M)) (by with_unfolding_all rfl)).trans ?_
  exact eq_call2 (e := (.invokevirtual 329, 3, 0, 233, 319)) (as := [.ref 205, .int x1, .int x2]) (r := []) (n := 3) (m := 3) (by with_unfolding_all rfl) rfl (by decide) (by with_unfolding_all rfl) (by decide) (by with_unfolding_all rfl) ⟨fun _ => am_rec_ok (c := 14) (by with_unfolding_all rfl) (by decide +kernel), fun z => by simp at z⟩
set_option maxRecDepth 20000 in
theorem b_232_6 {d nS : Nat} {x1 x2 : Int32} {M : am_M} {Q : Option Value → am_H → Prop} : am_Wp (d + 1) 232 6 [.ref 205, .int x1, .int x2] [] (hp nS M) Q = am_Wp d 234 0 [.ref 205, .int 0, .int (5 + (M 225 0)), .int 0, .int 99, .retAddr 0] [] (hp nS M) (fun v h1 => am_Wp (d + 1) 232 22 [.ref 205, .int x1, .int x2] (am_ans v []) h1 Q) := by
  refine (eq_run 10 (q := (19, [.ref 205, .int x1, .int x2], [.int 99, .int 0, .int (5 + (M 225 0)), .int 0, .ref 205], hp nS M)) (by with_unfolding_all rfl)).trans ?_
  exact eq_call2 (e := (.invokevirtual 332, 3, 0, 234, 320)) (as := [.ref 205, .int 0, .int (5 + (M 225 0)), .int 0, .int 99]) (r := []) (n := 5) (m := 6) (by with_unfolding_all rfl) rfl (by decide) (by with_unfolding_all rfl) (by decide) (by with_unfolding_all rfl) ⟨fun _ => am_rec_ok (c := 14) (by with_unfolding_all rfl) (by decide +kernel), fun z => by simp at z⟩
set_option maxRecDepth 20000 in
theorem b_232_22 {d nS : Nat} {x1 x2 s0 : Int32} {M : am_M} {Q : Option Value → am_H → Prop} : am_Wp d 232 22 [.ref 205, .int x1, .int x2] [.int s0] (hp nS M) Q = Q (some (.int s0)) (hp nS M) := by
  exact eq_retI2 (e := (.ireturn, 1, 0, 0, 0)) (t := .int) (by with_unfolding_all rfl) rfl (by with_unfolding_all rfl) rfl
-- asksLark(II)V
set_option maxRecDepth 20000 in
theorem b_233_0 {d nS : Nat} {x1 x2 : Int32} {M : am_M} {Q : Option Value → am_H → Prop} : am_Wp d 233 0 [.ref 205, .int x1, .int x2] [] (hp nS M) Q = if ¬ x1 = (-1) then am_Wp d 233 14 [.ref 205, .int x1, .int x2] [.int 0, .ref 225] (hp nS M) Q else am_Wp d 233 10 [.ref 205, .int x1, .int x2] [.int 0, .ref 225] (hp nS M) Q := by
  refine (eq_run 5 (q := (7, [.ref 205, .int x1, .int x2], [.int (-1), .int x1, .int 0, .ref 225], hp nS M)) (by with_unfolding_all rfl)).trans ?_
  exact eq_cmp_ne (by with_unfolding_all rfl)
set_option maxRecDepth 20000 in
theorem b_233_10 {d nS : Nat} {x1 x2 s1 : Int32} {M : am_M} {Q : Option Value → am_H → Prop} : am_Wp d 233 10 [.ref 205, .int x1, .int x2] [.int s1, .ref 225] (hp nS M) Q = am_Wp d 233 20 [.ref 205, .int x1, .int x2] [.int 0, .int s1, .ref 225] (hp nS M) Q := by
  exact eq_run 2 (q := (20, [.ref 205, .int x1, .int x2], [.int 0, .int s1, .ref 225], hp nS M)) (by with_unfolding_all rfl)
set_option maxRecDepth 20000 in
theorem b_233_14 {d nS : Nat} {x1 x2 s1 : Int32} {M : am_M} {Q : Option Value → am_H → Prop} (h1 : vp_in x1 6) : am_Wp d 233 14 [.ref 205, .int x1, .int x2] [.int s1, .ref 225] (hp nS M) Q = am_Wp d 233 20 [.ref 205, .int x1, .int x2] [.int (M 209 x1.toNatClampNeg), .int s1, .ref 225] (hp nS M) Q := by
  refine (eq_run 3 (q := (19, [.ref 205, .int x1, .int x2], [.int x1, .ref 209, .int s1, .ref 225], hp nS M)) (by with_unfolding_all rfl)).trans ?_
  exact eq_ald (e := (.iaload, 1, 0, 0, 0)) (by with_unfolding_all rfl) rfl (n := 6) (by with_unfolding_all rfl) h1
set_option maxRecDepth 20000 in
theorem b_233_20 {d nS : Nat} {x1 x2 s1 s2 : Int32} {M : am_M} {Q : Option Value → am_H → Prop} (h1 : vp_in s1 9) : am_Wp d 233 20 [.ref 205, .int x1, .int x2] [.int s2, .int s1, .ref 225] (hp nS M) Q = if ¬ x1 = (-1) then am_Wp d 233 35 [.ref 205, .int x1, .int x2] [.int 1, .ref 225] (hp nS (am_up M 225 s1.toNatClampNeg s2)) Q else am_Wp d 233 31 [.ref 205, .int x1, .int x2] [.int 1, .ref 225] (hp nS (am_up M 225 s1.toNatClampNeg s2)) Q := by
  refine (eq_ast (e := (.iastore, 1, 0, 0, 0)) (by with_unfolding_all rfl) rfl (n := 9) (by with_unfolding_all rfl) (by decide) h1).trans ?_
  refine (eq_run 5 (q := (28, [.ref 205, .int x1, .int x2], [.int (-1), .int x1, .int 1, .ref 225], hp nS (am_up M 225 s1.toNatClampNeg s2))) (by with_unfolding_all rfl)).trans ?_
  exact eq_cmp_ne (by with_unfolding_all rfl)
set_option maxRecDepth 20000 in
theorem b_233_31 {d nS : Nat} {x1 x2 s1 : Int32} {M : am_M} {Q : Option Value → am_H → Prop} : am_Wp d 233 31 [.ref 205, .int x1, .int x2] [.int s1, .ref 225] (hp nS M) Q = am_Wp d 233 43 [.ref 205, .int x1, .int x2] [.int 0, .int s1, .ref 225] (hp nS M) Q := by
  exact eq_run 2 (q := (43, [.ref 205, .int x1, .int x2], [.int 0, .int s1, .ref 225], hp nS M)) (by with_unfolding_all rfl)
set_option maxRecDepth 20000 in
theorem b_233_35 {d nS : Nat} {x1 x2 s1 : Int32} {M : am_M} {Q : Option Value → am_H → Prop} (h1 : vp_in (4 + x1) 136) : am_Wp d 233 35 [.ref 205, .int x1, .int x2] [.int s1, .ref 225] (hp nS M) Q = am_Wp d 233 43 [.ref 205, .int x1, .int x2] [.int (M 206 (4 + x1).toNatClampNeg), .int s1, .ref 225] (hp nS M) Q := by
  refine (eq_run 5 (q := (42, [.ref 205, .int x1, .int x2], [.int (4 + x1), .ref 206, .int s1, .ref 225], hp nS M)) (by with_unfolding_all rfl)).trans ?_
  exact eq_ald (e := (.iaload, 1, 0, 0, 0)) (by with_unfolding_all rfl) rfl (n := 136) (by with_unfolding_all rfl) h1
set_option maxRecDepth 20000 in
theorem b_233_43 {d nS : Nat} {x1 x2 s1 s2 : Int32} {M : am_M} {Q : Option Value → am_H → Prop} (h1 : vp_in s1 9) : am_Wp d 233 43 [.ref 205, .int x1, .int x2] [.int s2, .int s1, .ref 225] (hp nS M) Q = if ¬ x1 = (-1) then am_Wp d 233 58 [.ref 205, .int x1, .int x2] [.int 2, .ref 225] (hp nS (am_up M 225 s1.toNatClampNeg s2)) Q else am_Wp d 233 54 [.ref 205, .int x1, .int x2] [.int 2, .ref 225] (hp nS (am_up M 225 s1.toNatClampNeg s2)) Q := by
  refine (eq_ast (e := (.iastore, 1, 0, 0, 0)) (by with_unfolding_all rfl) rfl (n := 9) (by with_unfolding_all rfl) (by decide) h1).trans ?_
  refine (eq_run 5 (q := (51, [.ref 205, .int x1, .int x2], [.int (-1), .int x1, .int 2, .ref 225], hp nS (am_up M 225 s1.toNatClampNeg s2))) (by with_unfolding_all rfl)).trans ?_
  exact eq_cmp_ne (by with_unfolding_all rfl)
set_option maxRecDepth 20000 in
theorem b_233_54 {d nS : Nat} {x1 x2 s1 : Int32} {M : am_M} {Q : Option Value → am_H → Prop} : am_Wp d 233 54 [.ref 205, .int x1, .int x2] [.int s1, .ref 225] (hp nS M) Q = am_Wp d 233 67 [.ref 205, .int x1, .int x2] [.int 0, .int s1, .ref 225] (hp nS M) Q := by
  exact eq_run 2 (q := (67, [.ref 205, .int x1, .int x2], [.int 0, .int s1, .ref 225], hp nS M)) (by with_unfolding_all rfl)
set_option maxRecDepth 20000 in
theorem b_233_58 {d nS : Nat} {x1 x2 s1 : Int32} {M : am_M} {Q : Option Value → am_H → Prop} (h1 : vp_in (10 + x1) 136) : am_Wp d 233 58 [.ref 205, .int x1, .int x2] [.int s1, .ref 225] (hp nS M) Q = am_Wp d 233 67 [.ref 205, .int x1, .int x2] [.int (M 206 (10 + x1).toNatClampNeg), .int s1, .ref 225] (hp nS M) Q := by
  refine (eq_run 5 (q := (66, [.ref 205, .int x1, .int x2], [.int (10 + x1), .ref 206, .int s1, .ref 225], hp nS M)) (by with_unfolding_all rfl)).trans ?_
  exact eq_ald (e := (.iaload, 1, 0, 0, 0)) (by with_unfolding_all rfl) rfl (n := 136) (by with_unfolding_all rfl) h1
set_option maxRecDepth 20000 in
theorem b_233_67 {d nS : Nat} {x1 x2 s1 s2 : Int32} {M : am_M} {Q : Option Value → am_H → Prop} (h1 : vp_in s1 9) : am_Wp d 233 67 [.ref 205, .int x1, .int x2] [.int s2, .int s1, .ref 225] (hp nS M) Q = if ¬ x1 = (-1) then am_Wp d 233 82 [.ref 205, .int x1, .int x2] [.int 3, .ref 225] (hp nS (am_up M 225 s1.toNatClampNeg s2)) Q else am_Wp d 233 78 [.ref 205, .int x1, .int x2] [.int 3, .ref 225] (hp nS (am_up M 225 s1.toNatClampNeg s2)) Q := by
  refine (eq_ast (e := (.iastore, 1, 0, 0, 0)) (by with_unfolding_all rfl) rfl (n := 9) (by with_unfolding_all rfl) (by decide) h1).trans ?_
  refine (eq_run 5 (q := (75, [.ref 205, .int x1, .int x2], [.int (-1), .int x1, .int 3, .ref 225], hp nS (am_up M 225 s1.toNatClampNeg s2))) (by with_unfolding_all rfl)).trans ?_
  exact eq_cmp_ne (by with_unfolding_all rfl)
set_option maxRecDepth 20000 in
theorem b_233_78 {d nS : Nat} {x1 x2 s1 : Int32} {M : am_M} {Q : Option Value → am_H → Prop} : am_Wp d 233 78 [.ref 205, .int x1, .int x2] [.int s1, .ref 225] (hp nS M) Q = am_Wp d 233 91 [.ref 205, .int x1, .int x2] [.int 0, .int s1, .ref 225] (hp nS M) Q := by
  exact eq_run 2 (q := (91, [.ref 205, .int x1, .int x2], [.int 0, .int s1, .ref 225], hp nS M)) (by with_unfolding_all rfl)
set_option maxRecDepth 20000 in
theorem b_233_82 {d nS : Nat} {x1 x2 s1 : Int32} {M : am_M} {Q : Option Value → am_H → Prop} (h1 : vp_in (22 + x1) 136) : am_Wp d 233 82 [.ref 205, .int x1, .int x2] [.int s1, .ref 225] (hp nS M) Q = am_Wp d 233 91 [.ref 205, .int x1, .int x2] [.int (M 206 (22 + x1).toNatClampNeg), .int s1, .ref 225] (hp nS M) Q := by
  refine (eq_run 5 (q := (90, [.ref 205, .int x1, .int x2], [.int (22 + x1), .ref 206, .int s1, .ref 225], hp nS M)) (by with_unfolding_all rfl)).trans ?_
  exact eq_ald (e := (.iaload, 1, 0, 0, 0)) (by with_unfolding_all rfl) rfl (n := 136) (by with_unfolding_all rfl) h1
set_option maxRecDepth 20000 in
theorem b_233_91 {d nS : Nat} {x1 x2 s1 s2 : Int32} {M : am_M} {Q : Option Value → am_H → Prop} (h1 : vp_in s1 9) : am_Wp d 233 91 [.ref 205, .int x1, .int x2] [.int s2, .int s1, .ref 225] (hp nS M) Q = if ¬ x1 = (-1) then am_Wp d 233 134 [.ref 205, .int x1, .int x2] [.int 7, .ref 225] (hp nS (am_up (am_up (am_up (am_up M 225 s1.toNatClampNeg s2) 225 4 ((am_up M 225 s1.toNatClampNeg s2) 206 3)) 225 5 x2) 225 6 0)) Q else am_Wp d 233 130 [.ref 205, .int x1, .int x2] [.int 7, .ref 225] (hp nS (am_up (am_up (am_up (am_up M 225 s1.toNatClampNeg s2) 225 4 ((am_up M 225 s1.toNatClampNeg s2) 206 3)) 225 5 x2) 225 6 0)) Q := by
  refine (eq_ast (e := (.iastore, 1, 0, 0, 0)) (by with_unfolding_all rfl) rfl (n := 9) (by with_unfolding_all rfl) (by decide) h1).trans ?_
  refine (eq_run 23 (q := (127, [.ref 205, .int x1, .int x2], [.int (-1), .int x1, .int 7, .ref 225], hp nS (am_up (am_up (am_up (am_up M 225 s1.toNatClampNeg s2) 225 4 ((am_up M 225 s1.toNatClampNeg s2) 206 3)) 225 5 x2) 225 6 0))) (by with_unfolding_all rfl)).trans ?_
  exact eq_cmp_ne (by with_unfolding_all rfl)
set_option maxRecDepth 20000 in
theorem b_233_130 {d nS : Nat} {x1 x2 s1 : Int32} {M : am_M} {Q : Option Value → am_H → Prop} : am_Wp d 233 130 [.ref 205, .int x1, .int x2] [.int s1, .ref 225] (hp nS M) Q = am_Wp d 233 143 [.ref 205, .int x1, .int x2] [.int 0, .int s1, .ref 225] (hp nS M) Q := by
  exact eq_run 2 (q := (143, [.ref 205, .int x1, .int x2], [.int 0, .int s1, .ref 225], hp nS M)) (by with_unfolding_all rfl)
set_option maxRecDepth 20000 in
theorem b_233_134 {d nS : Nat} {x1 x2 s1 : Int32} {M : am_M} {Q : Option Value → am_H → Prop} (h1 : vp_in (16 + x1) 136) : am_Wp d 233 134 [.ref 205, .int x1, .int x2] [.int s1, .ref 225] (hp nS M) Q = am_Wp d 233 143 [.ref 205, .int x1, .int x2] [.int (M 206 (16 + x1).toNatClampNeg), .int s1, .ref 225] (hp nS M) Q := by
  refine (eq_run 5 (q := (142, [.ref 205, .int x1, .int x2], [.int (16 + x1), .ref 206, .int s1, .ref 225], hp nS M)) (by with_unfolding_all rfl)).trans ?_
  exact eq_ald (e := (.iaload, 1, 0, 0, 0)) (by with_unfolding_all rfl) rfl (n := 136) (by with_unfolding_all rfl) h1
set_option maxRecDepth 20000 in
theorem b_233_143 {d nS : Nat} {x1 x2 s1 s2 : Int32} {M : am_M} {Q : Option Value → am_H → Prop} (h1 : vp_in s1 9) : am_Wp d 233 143 [.ref 205, .int x1, .int x2] [.int s2, .int s1, .ref 225] (hp nS M) Q = Q none (hp nS (am_up (am_up M 225 s1.toNatClampNeg s2) 225 8 ((am_up M 225 s1.toNatClampNeg s2) 206 0))) := by
  refine (eq_ast (e := (.iastore, 1, 0, 0, 0)) (by with_unfolding_all rfl) rfl (n := 9) (by with_unfolding_all rfl) (by decide) h1).trans ?_
  refine (eq_run 8 (q := (157, [.ref 205, .int x1, .int x2], [], hp nS (am_up (am_up M 225 s1.toNatClampNeg s2) 225 8 ((am_up M 225 s1.toNatClampNeg s2) 206 0)))) (by with_unfolding_all rfl)).trans ?_
  exact eq_retV2 (e := (.return_, 1, 0, 0, 0)) (by with_unfolding_all rfl) rfl (by with_unfolding_all rfl)
