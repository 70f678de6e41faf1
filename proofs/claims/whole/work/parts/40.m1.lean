-- readDeed(I)I
set_option maxRecDepth 20000 in
theorem b_194_0 {d nS : Nat} {x1 : Int32} {M : am_M} {Q : Option Value → am_H → Prop} : am_Wp (d + 1) 194 0 [.ref 205, .int x1, .retAddr 0] [] (hp nS M) Q = am_Wp d 195 0 [.ref 205, .int 16, .int 0, .int 999] [] (hp nS M) (fun v h1 => am_Wp (d + 1) 194 15 [.ref 205, .int x1, .retAddr 0] (am_ans v [.int x1, .ref 222]) h1 Q) := by
  refine (eq_run 7 (q := (12, [.ref 205, .int x1, .retAddr 0], [.int 999, .int 0, .int 16, .ref 205, .int x1, .ref 222], hp nS M)) (by with_unfolding_all rfl)).trans ?_
  exact eq_call2 (e := (.invokevirtual 265, 3, 0, 195, 302)) (as := [.ref 205, .int 16, .int 0, .int 999]) (r := [.int x1, .ref 222]) (n := 4) (m := 4) (by with_unfolding_all rfl) rfl (by decide) (by with_unfolding_all rfl) (by decide) (by with_unfolding_all rfl) ⟨fun _ => am_rec_ok (c := 14) (by with_unfolding_all rfl) (by decide +kernel), fun z => by simp at z⟩
set_option maxRecDepth 20000 in
theorem b_194_15 {d nS : Nat} {x1 s1 s2 : Int32} {M : am_M} {Q : Option Value → am_H → Prop} (h1 : vp_in s1 128) (h2 : vp_in x1 128) : am_Wp d 194 15 [.ref 205, .int x1, .retAddr 0] [.int s2, .int s1, .ref 222] (hp nS M) Q = if ¬ ((am_up M 222 s1.toNatClampNeg s2) 222 x1.toNatClampNeg) = (-1) then am_Wp d 194 28 [.ref 205, .int x1, .retAddr 0] [] (hp nS (am_up M 222 s1.toNatClampNeg s2)) Q else am_Wp d 194 26 [.ref 205, .int x1, .retAddr 0] [] (hp nS (am_up M 222 s1.toNatClampNeg s2)) Q := by
  refine (eq_ast (e := (.iastore, 1, 0, 0, 0)) (by with_unfolding_all rfl) rfl (n := 128) (by with_unfolding_all rfl) (by decide) h1).trans ?_
  refine (eq_run 3 (q := (21, [.ref 205, .int x1, .retAddr 0], [.int x1, .ref 222], hp nS (am_up M 222 s1.toNatClampNeg s2))) (by with_unfolding_all rfl)).trans ?_
  refine (eq_ald (e := (.iaload, 1, 0, 0, 0)) (by with_unfolding_all rfl) rfl (n := 128) (by with_unfolding_all rfl) h2).trans ?_
  refine (eq_run 1 (q := (23, [.ref 205, .int x1, .retAddr 0], [.int (-1), .int ((am_up M 222 s1.toNatClampNeg s2) 222 x1.toNatClampNeg)], hp nS (am_up M 222 s1.toNatClampNeg s2))) (by with_unfolding_all rfl)).trans ?_
  exact eq_cmp_ne (by with_unfolding_all rfl)
set_option maxRecDepth 20000 in
theorem b_194_26 {d nS : Nat} {x1 : Int32} {M : am_M} {Q : Option Value → am_H → Prop} : am_Wp d 194 26 [.ref 205, .int x1, .retAddr 0] [] (hp nS M) Q = Q (some (.int (-1))) (hp nS M) := by
  refine (eq_run 1 (q := (27, [.ref 205, .int x1, .retAddr 0], [.int (-1)], hp nS M)) (by with_unfolding_all rfl)).trans ?_
  exact eq_retI2 (e := (.ireturn, 1, 0, 0, 0)) (t := .int) (by with_unfolding_all rfl) rfl (by with_unfolding_all rfl) rfl
set_option maxRecDepth 20000 in
theorem b_194_28 {d nS : Nat} {x1 : Int32} {M : am_M} {Q : Option Value → am_H → Prop} : am_Wp (d + 1) 194 28 [.ref 205, .int x1, .retAddr 0] [] (hp nS M) Q = am_Wp d 197 0 [.ref 205] [] (hp nS M) (fun v h1 => am_Wp (d + 1) 194 32 [.ref 205, .int x1, .retAddr 0] (am_ans v []) h1 Q) := by
  refine (eq_run 1 (q := (29, [.ref 205, .int x1, .retAddr 0], [.ref 205], hp nS M)) (by with_unfolding_all rfl)).trans ?_
  exact eq_call2 (e := (.invokevirtual 269, 3, 0, 197, 303)) (as := [.ref 205]) (r := []) (n := 1) (m := 1) (by with_unfolding_all rfl) rfl (by decide) (by with_unfolding_all rfl) (by decide) (by with_unfolding_all rfl) ⟨fun _ => am_rec_ok (c := 14) (by with_unfolding_all rfl) (by decide +kernel), fun z => by simp at z⟩
set_option maxRecDepth 20000 in
theorem b_194_32 {d nS : Nat} {x1 s0 : Int32} {M : am_M} {Q : Option Value → am_H → Prop} : am_Wp d 194 32 [.ref 205, .int x1, .retAddr 0] [.int s0] (hp nS M) Q = if ¬ s0 = (-1) then am_Wp d 194 44 [.ref 205, .int x1, .int s0] [] (hp nS M) Q else am_Wp d 194 38 [.ref 205, .int x1, .int s0] [] (hp nS M) Q := by
  refine (eq_run 3 (q := (35, [.ref 205, .int x1, .int s0], [.int (-1), .int s0], hp nS M)) (by with_unfolding_all rfl)).trans ?_
  exact eq_cmp_ne (by with_unfolding_all rfl)
set_option maxRecDepth 20000 in
theorem b_194_38 {d nS : Nat} {x1 x2 : Int32} {M : am_M} {Q : Option Value → am_H → Prop} : am_Wp (d + 1) 194 38 [.ref 205, .int x1, .int x2] [] (hp nS M) Q = am_Wp d 193 0 [.ref 205, .int 1] [] (hp nS M) (fun v h1 => am_Wp (d + 1) 194 43 [.ref 205, .int x1, .int x2] (am_ans v []) h1 Q) := by
  refine (eq_run 2 (q := (40, [.ref 205, .int x1, .int x2], [.int 1, .ref 205], hp nS M)) (by with_unfolding_all rfl)).trans ?_
  exact eq_call2 (e := (.invokevirtual 211, 3, 0, 193, 288)) (as := [.ref 205, .int 1]) (r := []) (n := 2) (m := 2) (by with_unfolding_all rfl) rfl (by decide) (by with_unfolding_all rfl) (by decide) (by with_unfolding_all rfl) ⟨fun _ => am_rec_ok (c := 14) (by with_unfolding_all rfl) (by decide +kernel), fun z => by simp at z⟩
set_option maxRecDepth 20000 in
theorem b_194_43 {d nS : Nat} {x1 x2 s0 : Int32} {M : am_M} {Q : Option Value → am_H → Prop} : am_Wp d 194 43 [.ref 205, .int x1, .int x2] [.int s0] (hp nS M) Q = Q (some (.int s0)) (hp nS M) := by
  exact eq_retI2 (e := (.ireturn, 1, 0, 0, 0)) (t := .int) (by with_unfolding_all rfl) rfl (by with_unfolding_all rfl) rfl
set_option maxRecDepth 20000 in
theorem b_194_44 {d nS : Nat} {x1 x2 : Int32} {M : am_M} {Q : Option Value → am_H → Prop} : am_Wp (d + 1) 194 44 [.ref 205, .int x1, .int x2] [] (hp nS M) Q = am_Wp d 185 0 [.ref 205, .retAddr 0] [] (hp nS M) (fun v h1 => am_Wp (d + 1) 194 48 [.ref 205, .int x1, .int x2] (am_ans v []) h1 Q) := by
  refine (eq_run 1 (q := (45, [.ref 205, .int x1, .int x2], [.ref 205], hp nS M)) (by with_unfolding_all rfl)).trans ?_
  exact eq_call2 (e := (.invokevirtual 218, 3, 0, 185, 290)) (as := [.ref 205]) (r := []) (n := 1) (m := 2) (by with_unfolding_all rfl) rfl (by decide) (by with_unfolding_all rfl) (by decide) (by with_unfolding_all rfl) ⟨fun _ => am_rec_ok (c := 14) (by with_unfolding_all rfl) (by decide +kernel), fun z => by simp at z⟩
set_option maxRecDepth 20000 in
theorem b_194_48 {d nS : Nat} {x1 x2 : Int32} {M : am_M} {Q : Option Value → am_H → Prop} (h1 : vp_in (x1 + 1) 128) : am_Wp d 194 48 [.ref 205, .int x1, .int x2] [] (hp nS M) Q = if ¬ x2 = 3 then am_Wp d 194 79 [.ref 205, .int x1, .int x2] [.int (x1 + 2), .ref 222] (hp nS (am_up M 222 (x1 + 1).toNatClampNeg x2)) Q else am_Wp d 194 69 [.ref 205, .int x1, .int x2] [.int (x1 + 2), .ref 222] (hp nS (am_up M 222 (x1 + 1).toNatClampNeg x2)) Q := by
  refine (eq_run 6 (q := (56, [.ref 205, .int x1, .int x2], [.int x2, .int (x1 + 1), .ref 222], hp nS M)) (by with_unfolding_all rfl)).trans ?_
  refine (eq_ast (e := (.iastore, 1, 0, 0, 0)) (by with_unfolding_all rfl) rfl (n := 128) (by with_unfolding_all rfl) (by decide) h1).trans ?_
  refine (eq_run 7 (q := (66, [.ref 205, .int x1, .int x2], [.int 3, .int x2, .int (x1 + 2), .ref 222], hp nS (am_up M 222 (x1 + 1).toNatClampNeg x2))) (by with_unfolding_all rfl)).trans ?_
  exact eq_cmp_ne (by with_unfolding_all rfl)
set_option maxRecDepth 20000 in
theorem b_194_69 {d nS : Nat} {x1 x2 s1 : Int32} {M : am_M} {Q : Option Value → am_H → Prop} : am_Wp (d + 1) 194 69 [.ref 205, .int x1, .int x2] [.int s1, .ref 222] (hp nS M) Q = am_Wp d 196 0 [.ref 205, .int 0, .int 9, .retAddr 0] [] (hp nS M) (fun v h1 => am_Wp (d + 1) 194 76 [.ref 205, .int x1, .int x2] (am_ans v [.int s1, .ref 222]) h1 Q) := by
  refine (eq_run 3 (q := (73, [.ref 205, .int x1, .int x2], [.int 9, .int 0, .ref 205, .int s1, .ref 222], hp nS M)) (by with_unfolding_all rfl)).trans ?_
  exact eq_call2 (e := (.invokevirtual 262, 3, 0, 196, 301)) (as := [.ref 205, .int 0, .int 9]) (r := [.int s1, .ref 222]) (n := 3) (m := 4) (by with_unfolding_all rfl) rfl (by decide) (by with_unfolding_all rfl) (by decide) (by with_unfolding_all rfl) ⟨fun _ => am_rec_ok (c := 14) (by with_unfolding_all rfl) (by decide +kernel), fun z => by simp at z⟩
set_option maxRecDepth 20000 in
theorem b_194_76 {d nS : Nat} {x1 x2 s1 s2 : Int32} {M : am_M} {Q : Option Value → am_H → Prop} : am_Wp d 194 76 [.ref 205, .int x1, .int x2] [.int s2, .int s1, .ref 222] (hp nS M) Q = am_Wp d 194 90 [.ref 205, .int x1, .int x2] [.int s2, .int s1, .ref 222] (hp nS M) Q := by
  exact eq_run 1 (q := (90, [.ref 205, .int x1, .int x2], [.int s2, .int s1, .ref 222], hp nS M)) (by with_unfolding_all rfl)
set_option maxRecDepth 20000 in
theorem b_194_79 {d nS : Nat} {x1 x2 s1 : Int32} {M : am_M} {Q : Option Value → am_H → Prop} : am_Wp (d + 1) 194 79 [.ref 205, .int x1, .int x2] [.int s1, .ref 222] (hp nS M) Q = am_Wp d 196 0 [.ref 205, .int 0, .int ((M 205 8) - 1), .retAddr 0] [] (hp nS M) (fun v h1 => am_Wp (d + 1) 194 90 [.ref 205, .int x1, .int x2] (am_ans v [.int s1, .ref 222]) h1 Q) := by
  refine (eq_run 6 (q := (87, [.ref 205, .int x1, .int x2], [.int ((M 205 8) - 1), .int 0, .ref 205, .int s1, .ref 222], hp nS M)) (by with_unfolding_all rfl)).trans ?_
  exact eq_call2 (e := (.invokevirtual 262, 3, 0, 196, 301)) (as := [.ref 205, .int 0, .int ((M 205 8) - 1)]) (r := [.int s1, .ref 222]) (n := 3) (m := 4) (by with_unfolding_all rfl) rfl (by decide) (by with_unfolding_all rfl) (by decide) (by with_unfolding_all rfl) ⟨fun _ => am_rec_ok (c := 14) (by with_unfolding_all rfl) (by decide +kernel), fun z => by simp at z⟩
set_option maxRecDepth 20000 in
theorem b_194_90 {d nS : Nat} {x1 x2 s1 s2 : Int32} {M : am_M} {Q : Option Value → am_H → Prop} (h1 : vp_in s1 128) (h2 : vp_in (x1 + 2) 128) : am_Wp d 194 90 [.ref 205, .int x1, .int x2] [.int s2, .int s1, .ref 222] (hp nS M) Q = if ¬ ((am_up M 222 s1.toNatClampNeg s2) 222 (x1 + 2).toNatClampNeg) = (-1) then am_Wp d 194 105 [.ref 205, .int x1, .int x2] [] (hp nS (am_up M 222 s1.toNatClampNeg s2)) Q else am_Wp d 194 103 [.ref 205, .int x1, .int x2] [] (hp nS (am_up M 222 s1.toNatClampNeg s2)) Q := by
  refine (eq_ast (e := (.iastore, 1, 0, 0, 0)) (by with_unfolding_all rfl) rfl (n := 128) (by with_unfolding_all rfl) (by decide) h1).trans ?_
  refine (eq_run 5 (q := (98, [.ref 205, .int x1, .int x2], [.int (x1 + 2), .ref 222], hp nS (am_up M 222 s1.toNatClampNeg s2))) (by with_unfolding_all rfl)).trans ?_
  refine (eq_ald (e := (.iaload, 1, 0, 0, 0)) (by with_unfolding_all rfl) rfl (n := 128) (by with_unfolding_all rfl) h2).trans ?_
  refine (eq_run 1 (q := (100, [.ref 205, .int x1, .int x2], [.int (-1), .int ((am_up M 222 s1.toNatClampNeg s2) 222 (x1 + 2).toNatClampNeg)], hp nS (am_up M 222 s1.toNatClampNeg s2))) (by with_unfolding_all rfl)).trans ?_
  exact eq_cmp_ne (by with_unfolding_all rfl)
set_option maxRecDepth 20000 in
theorem b_194_103 {d nS : Nat} {x1 x2 : Int32} {M : am_M} {Q : Option Value → am_H → Prop} : am_Wp d 194 103 [.ref 205, .int x1, .int x2] [] (hp nS M) Q = Q (some (.int (-1))) (hp nS M) := by
  refine (eq_run 1 (q := (104, [.ref 205, .int x1, .int x2], [.int (-1)], hp nS M)) (by with_unfolding_all rfl)).trans ?_
  exact eq_retI2 (e := (.ireturn, 1, 0, 0, 0)) (t := .int) (by with_unfolding_all rfl) rfl (by with_unfolding_all rfl) rfl
set_option maxRecDepth 20000 in
theorem b_194_105 {d nS : Nat} {x1 x2 : Int32} {M : am_M} {Q : Option Value → am_H → Prop} : am_Wp d 194 105 [.ref 205, .int x1, .int x2] [] (hp nS M) Q = if ¬ x2 = 0 then am_Wp d 194 126 [.ref 205, .int x1, .int x2] [.int (x1 + 3), .ref 222] (hp nS M) Q else am_Wp d 194 116 [.ref 205, .int x1, .int x2] [.int (x1 + 3), .ref 222] (hp nS M) Q := by
  refine (eq_run 6 (q := (113, [.ref 205, .int x1, .int x2], [.int x2, .int (x1 + 3), .ref 222], hp nS M)) (by with_unfolding_all rfl)).trans ?_
  exact eq_if_ne (by with_unfolding_all rfl)
set_option maxRecDepth 20000 in
theorem b_194_116 {d nS : Nat} {x1 x2 s1 : Int32} {M : am_M} {Q : Option Value → am_H → Prop} : am_Wp (d + 1) 194 116 [.ref 205, .int x1, .int x2] [.int s1, .ref 222] (hp nS M) Q = am_Wp d 196 0 [.ref 205, .int 1, .int 9, .retAddr 0] [] (hp nS M) (fun v h1 => am_Wp (d + 1) 194 123 [.ref 205, .int x1, .int x2] (am_ans v [.int s1, .ref 222]) h1 Q) := by
  refine (eq_run 3 (q := (120, [.ref 205, .int x1, .int x2], [.int 9, .int 1, .ref 205, .int s1, .ref 222], hp nS M)) (by with_unfolding_all rfl)).trans ?_
  exact eq_call2 (e := (.invokevirtual 262, 3, 0, 196, 301)) (as := [.ref 205, .int 1, .int 9]) (r := [.int s1, .ref 222]) (n := 3) (m := 4) (by with_unfolding_all rfl) rfl (by decide) (by with_unfolding_all rfl) (by decide) (by with_unfolding_all rfl) ⟨fun _ => am_rec_ok (c := 14) (by with_unfolding_all rfl) (by decide +kernel), fun z => by simp at z⟩
set_option maxRecDepth 20000 in
theorem b_194_123 {d nS : Nat} {x1 x2 s1 s2 : Int32} {M : am_M} {Q : Option Value → am_H → Prop} : am_Wp d 194 123 [.ref 205, .int x1, .int x2] [.int s2, .int s1, .ref 222] (hp nS M) Q = am_Wp d 194 127 [.ref 205, .int x1, .int x2] [.int s2, .int s1, .ref 222] (hp nS M) Q := by
  exact eq_run 1 (q := (127, [.ref 205, .int x1, .int x2], [.int s2, .int s1, .ref 222], hp nS M)) (by with_unfolding_all rfl)
set_option maxRecDepth 20000 in
theorem b_194_126 {d nS : Nat} {x1 x2 s1 : Int32} {M : am_M} {Q : Option Value → am_H → Prop} : am_Wp d 194 126 [.ref 205, .int x1, .int x2] [.int s1, .ref 222] (hp nS M) Q = am_Wp d 194 127 [.ref 205, .int x1, .int x2] [.int 0, .int s1, .ref 222] (hp nS M) Q := by
  exact eq_run 1 (q := (127, [.ref 205, .int x1, .int x2], [.int 0, .int s1, .ref 222], hp nS M)) (by with_unfolding_all rfl)
set_option maxRecDepth 20000 in
theorem b_194_127 {d nS : Nat} {x1 x2 s1 s2 : Int32} {M : am_M} {Q : Option Value → am_H → Prop} (h1 : vp_in s1 128) (h2 : vp_in (x1 + 3) 128) : am_Wp d 194 127 [.ref 205, .int x1, .int x2] [.int s2, .int s1, .ref 222] (hp nS M) Q = if ¬ ((am_up M 222 s1.toNatClampNeg s2) 222 (x1 + 3).toNatClampNeg) = (-1) then am_Wp d 194 144 [.ref 205, .int x1, .int x2] [] (hp nS (am_up M 222 s1.toNatClampNeg s2)) Q else am_Wp d 194 140 [.ref 205, .int x1, .int x2] [] (hp nS (am_up M 222 s1.toNatClampNeg s2)) Q := by
  refine (eq_ast (e := (.iastore, 1, 0, 0, 0)) (by with_unfolding_all rfl) rfl (n := 128) (by with_unfolding_all rfl) (by decide) h1).trans ?_
  refine (eq_run 5 (q := (135, [.ref 205, .int x1, .int x2], [.int (x1 + 3), .ref 222], hp nS (am_up M 222 s1.toNatClampNeg s2))) (by with_unfolding_all rfl)).trans ?_
  refine (eq_ald (e := (.iaload, 1, 0, 0, 0)) (by with_unfolding_all rfl) rfl (n := 128) (by with_unfolding_all rfl) h2).trans ?_
  refine (eq_run 1 (q := (137, [.ref 205, .int x1, .int x2], [.int (-1), .int ((am_up M 222 s1.toNatClampNeg s2) 222 (x1 + 3).toNatClampNeg)], hp nS (am_up M 222 s1.toNatClampNeg s2))) (by with_unfolding_all rfl)).trans ?_
  exact eq_cmp_ne (by with_unfolding_all rfl)
set_option maxRecDepth 20000 in
theorem b_194_140 {d nS : Nat} {x1 x2 : Int32} {M : am_M} {Q : Option Value → am_H → Prop} : am_Wp d 194 140 [.ref 205, .int x1, .int x2] [] (hp nS M) Q = am_Wp d 194 150 [.ref 205, .int x1, .int x2] [.int (-1)] (hp nS M) Q := by
  exact eq_run 2 (q := (150, [.ref 205, .int x1, .int x2], [.int (-1)], hp nS M)) (by with_unfolding_all rfl)
set_option maxRecDepth 20000 in
theorem b_194_144 {d nS : Nat} {x1 x2 : Int32} {M : am_M} {Q : Option Value → am_H → Prop} : am_Wp (d + 1) 194 144 [.ref 205, .int x1, .int x2] [] (hp nS M) Q = am_Wp d 198 0 [.ref 205, .int 59] [] (hp nS M) (fun v h1 => am_Wp (d + 1) 194 150 [.ref 205, .int x1, .int x2] (am_ans v []) h1 Q) := by
  refine (eq_run 2 (q := (147, [.ref 205, .int x1, .int x2], [.int 59, .ref 205], hp nS M)) (by with_unfolding_all rfl)).trans ?_
  exact eq_call2 (e := (.invokevirtual 272, 3, 0, 198, 304)) (as := [.ref 205, .int 59]) (r := []) (n := 2) (m := 2) (by with_unfolding_all rfl) rfl (by decide) (by with_unfolding_all rfl) (by decide) (by with_unfolding_all rfl) ⟨fun _ => am_rec_ok (c := 14) (by with_unfolding_all rfl) (by decide +kernel), fun z => by simp at z⟩
set_option maxRecDepth 20000 in
theorem b_194_150 {d nS : Nat} {x1 x2 s0 : Int32} {M : am_M} {Q : Option Value → am_H → Prop} : am_Wp d 194 150 [.ref 205, .int x1, .int x2] [.int s0] (hp nS M) Q = Q (some (.int s0)) (hp nS M) := by
  exact eq_retI2 (e := (.ireturn, 1, 0, 0, 0)) (t := .int) (by with_unfolding_all rfl) rfl (by with_unfolding_all rfl) rfl
-- readTold(III)I
set_option maxRecDepth 20000 in
theorem b_195_0 {d nS : Nat} {x1 x2 x3 : Int32} {M : am_M} {Q : Option Value → am_H → Prop} : am_Wp (d + 1) 195 0 [.ref 205, .int x1, .int x2, .int x3] [] (hp nS M) Q = am_Wp d 192 0 [.ref 205, .int x1] [] (hp nS M) (fun v h1 => am_Wp (d + 1) 195 5 [.ref 205, .int x1, .int x2, .int x3] (am_ans v []) h1 Q) := by
  refine (eq_run 2 (q := (2, [.ref 205, .int x1, .int x2, .int x3], [.int x1, .ref 205], hp nS M)) (by with_unfolding_all rfl)).trans ?_
  exact eq_call2 (e := (.invokevirtual 240, 3, 0, 192, 295)) (as := [.ref 205, .int x1]) (r := []) (n := 2) (m := 2) (by with_unfolding_all rfl) rfl (by decide) (by with_unfolding_all rfl) (by decide) (by with_unfolding_all rfl) ⟨fun _ => am_rec_ok (c := 14) (by with_unfolding_all rfl) (by decide +kernel), fun z => by simp at z⟩
set_option maxRecDepth 20000 in
theorem b_195_5 {d nS : Nat} {x1 x2 x3 s0 : Int32} {M : am_M} {Q : Option Value → am_H → Prop} : am_Wp d 195 5 [.ref 205, .int x1, .int x2, .int x3] [.int s0] (hp nS M) Q = if ¬ s0 = 0 then am_Wp d 195 14 [.ref 205, .int x1, .int x2, .int x3] [] (hp nS M) Q else am_Wp d 195 8 [.ref 205, .int x1, .int x2, .int x3] [] (hp nS M) Q := by
  exact eq_if_ne (by with_unfolding_all rfl)
set_option maxRecDepth 20000 in
theorem b_195_8 {d nS : Nat} {x1 x2 x3 : Int32} {M : am_M} {Q : Option Value → am_H → Prop} : am_Wp (d + 1) 195 8 [.ref 205, .int x1, .int x2, .int x3] [] (hp nS M) Q = am_Wp d 193 0 [.ref 205, .int 1] [] (hp nS M) (fun v h1 => am_Wp (d + 1) 195 13 [.ref 205, .int x1, .int x2, .int x3] (am_ans v []) h1 Q) := by
  refine (eq_run 2 (q := (10, [.ref 205, .int x1, .int x2, .int x3], [.int 1, .ref 205], hp nS M)) (by with_unfolding_all rfl)).trans ?_
  exact eq_call2 (e := (.invokevirtual 211, 3, 0, 193, 288)) (as := [.ref 205, .int 1]) (r := []) (n := 2) (m := 2) (by with_unfolding_all rfl) rfl (by decide) (by with_unfolding_all rfl) (by decide) (by with_unfolding_all rfl) ⟨fun _ => am_rec_ok (c := 14) (by with_unfolding_all rfl) (by decide +kernel), fun z => by simp at z⟩
set_option maxRecDepth 20000 in
theorem b_195_13 {d nS : Nat} {x1 x2 x3 s0 : Int32} {M : am_M} {Q : Option Value → am_H → Prop} : am_Wp d 195 13 [.ref 205, .int x1, .int x2, .int x3] [.int s0] (hp nS M) Q = Q (some (.int s0)) (hp nS M) := by
  exact eq_retI2 (e := (.ireturn, 1, 0, 0, 0)) (t := .int) (by with_unfolding_all rfl) rfl (by with_unfolding_all rfl) rfl
set_option maxRecDepth 20000 in
theorem b_195_14 {d nS : Nat} {x1 x2 x3 : Int32} {M : am_M} {Q : Option Value → am_H → Prop} : am_Wp (d + 1) 195 14 [.ref 205, .int x1, .int x2, .int x3] [] (hp nS M) Q = am_Wp d 185 0 [.ref 205, .retAddr 0] [] (hp nS M) (fun v h1 => am_Wp (d + 1) 195 18 [.ref 205, .int x1, .int x2, .int x3] (am_ans v []) h1 Q) := by
  refine (eq_run 1 (q := (15, [.ref 205, .int x1, .int x2, .int x3], [.ref 205], hp nS M)) (by with_unfolding_all rfl)).trans ?_
  exact eq_call2 (e := (.invokevirtual 218, 3, 0, 185, 290)) (as := [.ref 205]) (r := []) (n := 1) (m := 2) (by with_unfolding_all rfl) rfl (by decide) (by with_unfolding_all rfl) (by decide) (by with_unfolding_all rfl) ⟨fun _ => am_rec_ok (c := 14) (by with_unfolding_all rfl) (by decide +kernel), fun z => by simp at z⟩
set_option maxRecDepth 20000 in
theorem b_195_18 {d nS : Nat} {x1 x2 x3 : Int32} {M : am_M} {Q : Option Value → am_H → Prop} : am_Wp (d + 1) 195 18 [.ref 205, .int x1, .int x2, .int x3] [] (hp nS M) Q = am_Wp d 196 0 [.ref 205, .int x2, .int x3, .retAddr 0] [] (hp nS M) (fun v h1 => am_Wp (d + 1) 195 24 [.ref 205, .int x1, .int x2, .int x3] (am_ans v []) h1 Q) := by
  refine (eq_run 3 (q := (21, [.ref 205, .int x1, .int x2, .int x3], [.int x3, .int x2, .ref 205], hp nS M)) (by with_unfolding_all rfl)).trans ?_
  exact eq_call2 (e := (.invokevirtual 262, 3, 0, 196, 301)) (as := [.ref 205, .int x2, .int x3]) (r := []) (n := 3) (m := 4) (by with_unfolding_all rfl) rfl (by decide) (by with_unfolding_all rfl) (by decide) (by with_unfolding_all rfl) ⟨fun _ => am_rec_ok (c := 14) (by with_unfolding_all rfl) (by decide +kernel), fun z => by simp at z⟩
set_option maxRecDepth 20000 in
theorem b_195_24 {d nS : Nat} {x1 x2 x3 s0 : Int32} {M : am_M} {Q : Option Value → am_H → Prop} : am_Wp d 195 24 [.ref 205, .int x1, .int x2, .int x3] [.int s0] (hp nS M) Q = Q (some (.int s0)) (hp nS M) := by
  exact eq_retI2 (e := (.ireturn, 1, 0, 0, 0)) (t := .int) (by with_unfolding_all rfl) rfl (by with_unfolding_all rfl) rfl
-- readNumber(II)I
set_option maxRecDepth 20000 in
theorem b_196_0 {d nS : Nat} {x1 x2 : Int32} {M : am_M} {Q : Option Value → am_H → Prop} : am_Wp d 196 0 [.ref 205, .int x1, .int x2, .retAddr 0] [] (hp nS M) Q = if (M 205 18) = 3 then am_Wp d 196 14 [.ref 205, .int x1, .int x2, .retAddr 0] [] (hp nS M) Q else am_Wp d 196 8 [.ref 205, .int x1, .int x2, .retAddr 0] [] (hp nS M) Q := by
  refine (eq_run 3 (q := (5, [.ref 205, .int x1, .int x2, .retAddr 0], [.int 3, .int (M 205 18)], hp nS M)) (by with_unfolding_all rfl)).trans ?_
  exact eq_cmp_eq (by with_unfolding_all rfl)
set_option maxRecDepth 20000 in
theorem b_196_8 {d nS : Nat} {x1 x2 : Int32} {M : am_M} {Q : Option Value → am_H → Prop} : am_Wp (d + 1) 196 8 [.ref 205, .int x1, .int x2, .retAddr 0] [] (hp nS M) Q = am_Wp d 193 0 [.ref 205, .int 1] [] (hp nS M) (fun v h1 => am_Wp (d + 1) 196 13 [.ref 205, .int x1, .int x2, .retAddr 0] (am_ans v []) h1 Q) := by
  refine (eq_run 2 (q := (10, [.ref 205, .int x1, .int x2, .retAddr 0], [.int 1, .ref 205], hp nS M)) (by with_unfolding_all rfl)).trans ?_
  exact eq_call2 (e := (.invokevirtual 211, 3, 0, 193, 288)) (as := [.ref 205, .int 1]) (r := []) (n := 2) (m := 2) (by with_unfolding_all rfl) rfl (by decide) (by with_unfolding_all rfl) (by decide) (by with_unfolding_all rfl) ⟨fun _ => am_rec_ok (c := 14) (by with_unfolding_all rfl) (by decide +kernel), fun z => by simp at z⟩
set_option maxRecDepth 20000 in
theorem b_196_13 {d nS : Nat} {x1 x2 s0 : Int32} {M : am_M} {Q : Option Value → am_H → Prop} : am_Wp d 196 13 [.ref 205, .int x1, .int x2, .retAddr 0] [.int s0] (hp nS M) Q = Q (some (.int s0)) (hp nS M) := by
  exact eq_retI2 (e := (.ireturn, 1, 0, 0, 0)) (t := .int) (by with_unfolding_all rfl) rfl (by with_unfolding_all rfl) rfl
set_option maxRecDepth 20000 in
theorem b_196_14 {d nS : Nat} {x1 x2 : Int32} {M : am_M} {Q : Option Value → am_H → Prop} : am_Wp (d + 1) 196 14 [.ref 205, .int x1, .int x2, .retAddr 0] [] (hp nS M) Q = am_Wp d 171 0 [.ref 205, .int (M 205 19), .int x1, .int x2] [] (hp nS M) (fun v h1 => am_Wp (d + 1) 196 24 [.ref 205, .int x1, .int x2, .retAddr 0] (am_ans v []) h1 Q) := by
  refine (eq_run 5 (q := (21, [.ref 205, .int x1, .int x2, .retAddr 0], [.int x2, .int x1, .int (M 205 19), .ref 205], hp nS M)) (by with_unfolding_all rfl)).trans ?_
  exact eq_call2 (e := (.invokevirtual 144, 3, 0, 171, 275)) (as := [.ref 205, .int (M 205 19), .int x1, .int x2]) (r := []) (n := 4) (m := 4) (by with_unfolding_all rfl) rfl (by decide) (by with_unfolding_all rfl) (by decide) (by with_unfolding_all rfl) ⟨fun _ => am_rec_ok (c := 14) (by with_unfolding_all rfl) (by decide +kernel), fun z => by simp at z⟩
set_option maxRecDepth 20000 in
theorem b_196_24 {d nS : Nat} {x1 x2 s0 : Int32} {M : am_M} {Q : Option Value → am_H → Prop} : am_Wp d 196 24 [.ref 205, .int x1, .int x2, .retAddr 0] [.int s0] (hp nS M) Q = if ¬ s0 = 0 then am_Wp d 196 33 [.ref 205, .int x1, .int x2, .retAddr 0] [] (hp nS M) Q else am_Wp d 196 27 [.ref 205, .int x1, .int x2, .retAddr 0] [] (hp nS M) Q := by
  exact eq_if_ne (by with_unfolding_all rfl)
set_option maxRecDepth 20000 in
theorem b_196_27 {d nS : Nat} {x1 x2 : Int32} {M : am_M} {Q : Option Value → am_H → Prop} : am_Wp (d + 1) 196 27 [.ref 205, .int x1, .int x2, .retAddr 0] [] (hp nS M) Q = am_Wp d 193 0 [.ref 205, .int 2] [] (hp nS M) (fun v h1 => am_Wp (d + 1) 196 32 [.ref 205, .int x1, .int x2, .retAddr 0] (am_ans v []) h1 Q) := by
  refine (eq_run 2 (q := (29, [.ref 205, .int x1, .int x2, .retAddr 0], [.int 2, .ref 205], hp nS M)) (by with_unfolding_all rfl)).trans ?_
  exact eq_call2 (e := (.invokevirtual 211, 3, 0, 193, 288)) (as := [.ref 205, .int 2]) (r := []) (n := 2) (m := 2) (by with_unfolding_all rfl) rfl (by decide) (by with_unfolding_all rfl) (by decide) (by with_unfolding_all rfl) ⟨fun _ => am_rec_ok (c := 14) (by with_unfolding_all rfl) (by decide +kernel), fun z => by simp at z⟩
set_option maxRecDepth 20000 in
theorem b_196_32 {d nS : Nat} {x1 x2 s0 : Int32} {M : am_M} {Q : Option Value → am_H → Prop} : am_Wp d 196 32 [.ref 205, .int x1, .int x2, .retAddr 0] [.int s0] (hp nS M) Q = Q (some (.int s0)) (hp nS M) := by
  exact eq_retI2 (e := (.ireturn, 1, 0, 0, 0)) (t := .int) (by with_unfolding_all rfl) rfl (by with_unfolding_all rfl) rfl
set_option maxRecDepth 20000 in
theorem b_196_33 {d nS : Nat} {x1 x2 : Int32} {M : am_M} {Q : Option Value → am_H → Prop} : am_Wp (d + 1) 196 33 [.ref 205, .int x1, .int x2, .retAddr 0] [] (hp nS M) Q = am_Wp d 185 0 [.ref 205, .retAddr 0] [] (hp nS M) (fun v h1 => am_Wp (d + 1) 196 42 [.ref 205, .int x1, .int x2, .int (M 205 19)] (am_ans v []) h1 Q) := by
  refine (eq_run 4 (q := (39, [.ref 205, .int x1, .int x2, .int (M 205 19)], [.ref 205], hp nS M)) (by with_unfolding_all rfl)).trans ?_
  exact eq_call2 (e := (.invokevirtual 218, 3, 0, 185, 290)) (as := [.ref 205]) (r := []) (n := 1) (m := 2) (by with_unfolding_all rfl) rfl (by decide) (by with_unfolding_all rfl) (by decide) (by with_unfolding_all rfl) ⟨fun _ => am_rec_ok (c := 14) (by with_unfolding_all rfl) (by decide +kernel), fun z => by simp at z⟩
set_option maxRecDepth 20000 in
theorem b_196_42 {d nS : Nat} {x1 x2 x3 : Int32} {M : am_M} {Q : Option Value → am_H → Prop} : am_Wp d 196 42 [.ref 205, .int x1, .int x2, .int x3] [] (hp nS M) Q = Q (some (.int x3)) (hp nS M) := by
  refine (eq_run 1 (q := (43, [.ref 205, .int x1, .int x2, .int x3], [.int x3], hp nS M)) (by with_unfolding_all rfl)).trans ?_
  exact eq_retI2 (e := (.ireturn, 1, 0, 0, 0)) (t := .int) (by with_unfolding_all rfl) rfl (by with_unfolding_all rfl) rfl
-- kindOfDeed()I
set_option maxRecDepth 20000 in
theorem b_197_0 {d nS : Nat} {M : am_M} {Q : Option Value → am_H → Prop} : am_Wp (d + 1) 197 0 [.ref 205] [] (hp nS M) Q = am_Wp d 192 0 [.ref 205, .int 11] [] (hp nS M) (fun v h1 => am_Wp (d + 1) 197 6 [.ref 205] (am_ans v []) h1 Q) := by
  refine (eq_run 2 (q := (3, [.ref 205], [.int 11, .ref 205], hp nS M)) (by with_unfolding_all rfl)).trans ?_
  exact eq_call2 (e := (.invokevirtual 240, 3, 0, 192, 295)) (as := [.ref 205, .int 11]) (r := []) (n := 2) (m := 2) (by with_unfolding_all rfl) rfl (by decide) (by with_unfolding_all rfl) (by decide) (by with_unfolding_all rfl) ⟨fun _ => am_rec_ok (c := 14) (by with_unfolding_all rfl) (by decide +kernel), fun z => by simp at z⟩
set_option maxRecDepth 20000 in
theorem b_197_6 {d nS : Nat} {s0 : Int32} {M : am_M} {Q : Option Value → am_H → Prop} : am_Wp d 197 6 [.ref 205] [.int s0] (hp nS M) Q = if s0 = 0 then am_Wp d 197 11 [.ref 205] [] (hp nS M) Q else am_Wp d 197 9 [.ref 205] [] (hp nS M) Q := by
  exact eq_if_eq (by with_unfolding_all rfl)
set_option maxRecDepth 20000 in
theorem b_197_9 {d nS : Nat} {M : am_M} {Q : Option Value → am_H → Prop} : am_Wp d 197 9 [.ref 205] [] (hp nS M) Q = Q (some (.int 3)) (hp nS M) := by
  refine (eq_run 1 (q := (10, [.ref 205], [.int 3], hp nS M)) (by with_unfolding_all rfl)).trans ?_
  exact eq_retI2 (e := (.ireturn, 1, 0, 0, 0)) (t := .int) (by with_unfolding_all rfl) rfl (by with_unfolding_all rfl) rfl
set_option maxRecDepth 20000 in
theorem b_197_11 {d nS : Nat} {M : am_M} {Q : Option Value → am_H → Prop} : am_Wp d 197 11 [.ref 205] [] (hp nS M) Q = if ¬ (M 205 18) = 2 then am_Wp d 197 44 [.ref 205] [] (hp nS M) Q else am_Wp d 197 19 [.ref 205] [] (hp nS M) Q := by
  refine (eq_run 3 (q := (16, [.ref 205], [.int 2, .int (M 205 18)], hp nS M)) (by with_unfolding_all rfl)).trans ?_
  exact eq_cmp_ne (by with_unfolding_all rfl)
set_option maxRecDepth 20000 in
theorem b_197_19 {d nS : Nat} {M : am_M} {Q : Option Value → am_H → Prop} : am_Wp (d + 1) 197 19 [.ref 205] [] (hp nS M) Q = am_Wp d 171 0 [.ref 205, .int (M 205 19), .int 17, .int 19] [] (hp nS M) (fun v h1 => am_Wp (d + 1) 197 31 [.ref 205] (am_ans v []) h1 Q) := by
  refine (eq_run 5 (q := (28, [.ref 205], [.int 19, .int 17, .int (M 205 19), .ref 205], hp nS M)) (by with_unfolding_all rfl)).trans ?_
  exact eq_call2 (e := (.invokevirtual 144, 3, 0, 171, 275)) (as := [.ref 205, .int (M 205 19), .int 17, .int 19]) (r := []) (n := 4) (m := 4) (by with_unfolding_all rfl) rfl (by decide) (by with_unfolding_all rfl) (by decide) (by with_unfolding_all rfl) ⟨fun _ => am_rec_ok (c := 14) (by with_unfolding_all rfl) (by decide +kernel), fun z => by simp at z⟩
set_option maxRecDepth 20000 in
theorem b_197_31 {d nS : Nat} {s0 : Int32} {M : am_M} {Q : Option Value → am_H → Prop} : am_Wp d 197 31 [.ref 205] [.int s0] (hp nS M) Q = if s0 = 0 then am_Wp d 197 44 [.ref 205] [] (hp nS M) Q else am_Wp d 197 34 [.ref 205] [] (hp nS M) Q := by
  exact eq_if_eq (by with_unfolding_all rfl)
set_option maxRecDepth 20000 in
theorem b_197_34 {d nS : Nat} {M : am_M} {Q : Option Value → am_H → Prop} : am_Wp d 197 34 [.ref 205] [] (hp nS M) Q = am_Wp d 197 45 [.ref 205] [.int ((M 205 19) - 17)] (hp nS M) Q := by
  exact eq_run 5 (q := (45, [.ref 205], [.int ((M 205 19) - 17)], hp nS M)) (by with_unfolding_all rfl)
set_option maxRecDepth 20000 in
theorem b_197_44 {d nS : Nat} {M : am_M} {Q : Option Value → am_H → Prop} : am_Wp d 197 44 [.ref 205] [] (hp nS M) Q = am_Wp d 197 45 [.ref 205] [.int (-1)] (hp nS M) Q := by
  exact eq_run 1 (q := (45, [.ref 205], [.int (-1)], hp nS M)) (by with_unfolding_all rfl)
set_option maxRecDepth 20000 in
theorem b_197_45 {d nS : Nat} {s0 : Int32} {M : am_M} {Q : Option Value → am_H → Prop} : am_Wp d 197 45 [.ref 205] [.int s0] (hp nS M) Q = Q (some (.int s0)) (hp nS M) := by
  exact eq_retI2 (e := (.ireturn, 1, 0, 0, 0)) (t := .int) (by with_unfolding_all rfl) rfl (by with_unfolding_all rfl) rfl
-- readMark(I)I
set_option maxRecDepth 20000 in
theorem b_198_0 {d nS : Nat} {x1 : Int32} {M : am_M} {Q : Option Value → am_H → Prop} : am_Wp (d + 1) 198 0 [.ref 205, .int x1] [] (hp nS M) Q = am_Wp d 199 0 [.ref 205, .int x1] [] (hp nS M) (fun v h1 => am_Wp (d + 1) 198 5 [.ref 205, .int x1] (am_ans v []) h1 Q) := by
  refine (eq_run 2 (q := (2, [.ref 205, .int x1], [.int x1, .ref 205], hp nS M)) (by with_unfolding_all rfl)).trans ?_
  exact eq_call2 (e := (.invokevirtual 225, 3, 0, 199, 292)) (as := [.ref 205, .int x1]) (r := []) (n := 2) (m := 2) (by with_unfolding_all rfl) rfl (by decide) (by with_unfolding_all rfl) (by decide) (by with_unfolding_all rfl) ⟨fun _ => am_rec_ok (c := 14) (by with_unfolding_all rfl) (by decide +kernel), fun z => by simp at z⟩
set_option maxRecDepth 20000 in
theorem b_198_5 {d nS : Nat} {x1 s0 : Int32} {M : am_M} {Q : Option Value → am_H → Prop} : am_Wp d 198 5 [.ref 205, .int x1] [.int s0] (hp nS M) Q = if ¬ s0 = 0 then am_Wp d 198 14 [.ref 205, .int x1] [] (hp nS M) Q else am_Wp d 198 8 [.ref 205, .int x1] [] (hp nS M) Q := by
  exact eq_if_ne (by with_unfolding_all rfl)
set_option maxRecDepth 20000 in
theorem b_198_8 {d nS : Nat} {x1 : Int32} {M : am_M} {Q : Option Value → am_H → Prop} : am_Wp (d + 1) 198 8 [.ref 205, .int x1] [] (hp nS M) Q = am_Wp d 193 0 [.ref 205, .int 1] [] (hp nS M) (fun v h1 => am_Wp (d + 1) 198 13 [.ref 205, .int x1] (am_ans v []) h1 Q) := by
  refine (eq_run 2 (q := (10, [.ref 205, .int x1], [.int 1, .ref 205], hp nS M)) (by with_unfolding_all rfl)).trans ?_
  exact eq_call2 (e := (.invokevirtual 211, 3, 0, 193, 288)) (as := [.ref 205, .int 1]) (r := []) (n := 2) (m := 2) (by with_unfolding_all rfl) rfl (by decide) (by with_unfolding_all rfl) (by decide) (by with_unfolding_all rfl) ⟨fun _ => am_rec_ok (c := 14) (by with_unfolding_all rfl) (by decide +kernel), fun z => by simp at z⟩
set_option maxRecDepth 20000 in
theorem b_198_13 {d nS : Nat} {x1 s0 : Int32} {M : am_M} {Q : Option Value → am_H → Prop} : am_Wp d 198 13 [.ref 205, .int x1] [.int s0] (hp nS M) Q = Q (some (.int s0)) (hp nS M) := by
  exact eq_retI2 (e := (.ireturn, 1, 0, 0, 0)) (t := .int) (by with_unfolding_all rfl) rfl (by with_unfolding_all rfl) rfl
set_option maxRecDepth 20000 in
theorem b_198_14 {d nS : Nat} {x1 : Int32} {M : am_M} {Q : Option Value → am_H → Prop} : am_Wp (d + 1) 198 14 [.ref 205, .int x1] [] (hp nS M) Q = am_Wp d 185 0 [.ref 205, .retAddr 0] [] (hp nS M) (fun v h1 => am_Wp (d + 1) 198 18 [.ref 205, .int x1] (am_ans v []) h1 Q) := by
  refine (eq_run 1 (q := (15, [.ref 205, .int x1], [.ref 205], hp nS M)) (by with_unfolding_all rfl)).trans ?_
  exact eq_call2 (e := (.invokevirtual 218, 3, 0, 185, 290)) (as := [.ref 205]) (r := []) (n := 1) (m := 2) (by with_unfolding_all rfl) rfl (by decide) (by with_unfolding_all rfl) (by decide) (by with_unfolding_all rfl) ⟨fun _ => am_rec_ok (c := 14) (by with_unfolding_all rfl) (by decide +kernel), fun z => by simp at z⟩
set_option maxRecDepth 20000 in
theorem b_198_18 {d nS : Nat} {x1 : Int32} {M : am_M} {Q : Option Value → am_H → Prop} : am_Wp d 198 18 [.ref 205, .int x1] [] (hp nS M) Q = Q (some (.int 0)) (hp nS M) := by
  refine (eq_run 1 (q := (19, [.ref 205, .int x1], [.int 0], hp nS M)) (by with_unfolding_all rfl)).trans ?_
  exact eq_retI2 (e := (.ireturn, 1, 0, 0, 0)) (t := .int) (by with_unfolding_all rfl) rfl (by with_unfolding_all rfl) rfl
-- isSign(I)Z
set_option maxRecDepth 20000 in
theorem b_199_0 {d nS : Nat} {x1 : Int32} {M : am_M} {Q : Option Value → am_H → Prop} : am_Wp d 199 0 [.ref 205, .int x1] [] (hp nS M) Q = if ¬ (M 205 18) = 4 then am_Wp d 199 20 [.ref 205, .int x1] [] (hp nS M) Q else am_Wp d 199 8 [.ref 205, .int x1] [] (hp nS M) Q := by
  refine (eq_run 3 (q := (5, [.ref 205, .int x1], [.int 4, .int (M 205 18)], hp nS M)) (by with_unfolding_all rfl)).trans ?_
  exact eq_cmp_ne (by with_unfolding_all rfl)
set_option maxRecDepth 20000 in
theorem b_199_8 {d nS : Nat} {x1 : Int32} {M : am_M} {Q : Option Value → am_H → Prop} : am_Wp d 199 8 [.ref 205, .int x1] [] (hp nS M) Q = if ¬ (M 205 19) = x1 then am_Wp d 199 20 [.ref 205, .int x1] [] (hp nS M) Q else am_Wp d 199 16 [.ref 205, .int x1] [] (hp nS M) Q := by
  refine (eq_run 3 (q := (13, [.ref 205, .int x1], [.int x1, .int (M 205 19)], hp nS M)) (by with_unfolding_all rfl)).trans ?_
  exact eq_cmp_ne (by with_unfolding_all rfl)
set_option maxRecDepth 20000 in
theorem b_199_16 {d nS : Nat} {x1 : Int32} {M : am_M} {Q : Option Value → am_H → Prop} : am_Wp d 199 16 [.ref 205, .int x1] [] (hp nS M) Q = am_Wp d 199 21 [.ref 205, .int x1] [.int 1] (hp nS M) Q := by
  exact eq_run 2 (q := (21, [.ref 205, .int x1], [.int 1], hp nS M)) (by with_unfolding_all rfl)
set_option maxRecDepth 20000 in
theorem b_199_20 {d nS : Nat} {x1 : Int32} {M : am_M} {Q : Option Value → am_H → Prop} : am_Wp d 199 20 [.ref 205, .int x1] [] (hp nS M) Q = am_Wp d 199 21 [.ref 205, .int x1] [.int 0] (hp nS M) Q := by
  exact eq_run 1 (q := (21, [.ref 205, .int x1], [.int 0], hp nS M)) (by with_unfolding_all rfl)
set_option maxRecDepth 20000 in
theorem b_199_21 {d nS : Nat} {x1 s0 : Int32} {M : am_M} {Q : Option Value → am_H → Prop} (h1 : am_rok .boolean s0 = true) : am_Wp d 199 21 [.ref 205, .int x1] [.int s0] (hp nS M) Q = Q (some (.int s0)) (hp nS M) := by
  exact eq_retI2 (e := (.ireturn, 1, 0, 0, 0)) (t := .boolean) (by with_unfolding_all rfl) rfl (by with_unfolding_all rfl) h1
-- readTrades()I
set_option maxRecDepth 20000 in
theorem b_200_0 {d nS : Nat} {M : am_M} {Q : Option Value → am_H → Prop} : am_Wp d 200 0 [.ref 205, .retAddr 0] [] (hp nS M) Q = am_Wp d 200 2 [.ref 205, .int 0] [] (hp nS M) Q := by
  exact eq_run 2 (q := (2, [.ref 205, .int 0], [], hp nS M)) (by with_unfolding_all rfl)
set_option maxRecDepth 20000 in
theorem b_200_2 {d nS : Nat} {x1 : Int32} {M : am_M} {Q : Option Value → am_H → Prop} : am_Wp (d + 1) 200 2 [.ref 205, .int x1] [] (hp nS M) Q = am_Wp d 192 0 [.ref 205, .int 16] [] (hp nS M) (fun v h1 => am_Wp (d + 1) 200 8 [.ref 205, .int x1] (am_ans v []) h1 Q) := by
  refine (eq_run 2 (q := (5, [.ref 205, .int x1], [.int 16, .ref 205], hp nS M)) (by with_unfolding_all rfl)).trans ?_
  exact eq_call2 (e := (.invokevirtual 240, 3, 0, 192, 295)) (as := [.ref 205, .int 16]) (r := []) (n := 2) (m := 2) (by with_unfolding_all rfl) rfl (by decide) (by with_unfolding_all rfl) (by decide) (by with_unfolding_all rfl) ⟨fun _ => am_rec_ok (c := 14) (by with_unfolding_all rfl) (by decide +kernel), fun z => by simp at z⟩
set_option maxRecDepth 20000 in
theorem b_200_8 {d nS : Nat} {x1 s0 : Int32} {M : am_M} {Q : Option Value → am_H → Prop} : am_Wp d 200 8 [.ref 205, .int x1] [.int s0] (hp nS M) Q = if s0 = 0 then am_Wp d 200 46 [.ref 205, .int x1] [] (hp nS M) Q else am_Wp d 200 11 [.ref 205, .int x1] [] (hp nS M) Q := by
  exact eq_if_eq (by with_unfolding_all rfl)
set_option maxRecDepth 20000 in
theorem b_200_11 {d nS : Nat} {x1 : Int32} {M : am_M} {Q : Option Value → am_H → Prop} : am_Wp d 200 11 [.ref 205, .int x1] [] (hp nS M) Q = if ¬ x1 = 16 then am_Wp d 200 23 [.ref 205, .int x1] [] (hp nS M) Q else am_Wp d 200 17 [.ref 205, .int x1] [] (hp nS M) Q := by
  refine (eq_run 2 (q := (14, [.ref 205, .int x1], [.int 16, .int x1], hp nS M)) (by with_unfolding_all rfl)).trans ?_
  exact eq_cmp_ne (by with_unfolding_all rfl)
set_option maxRecDepth 20000 in
theorem b_200_17 {d nS : Nat} {x1 : Int32} {M : am_M} {Q : Option Value → am_H → Prop} : am_Wp (d + 1) 200 17 [.ref 205, .int x1] [] (hp nS M) Q = am_Wp d 193 0 [.ref 205, .int 3] [] (hp nS M) (fun v h1 => am_Wp (d + 1) 200 22 [.ref 205, .int x1] (am_ans v []) h1 Q) := by
  refine (eq_run 2 (q := (19, [.ref 205, .int x1], [.int 3, .ref 205], hp nS M)) (by with_unfolding_all rfl)).trans ?_
  exact eq_call2 (e := (.invokevirtual 211, 3, 0, 193, 288)) (as := [.ref 205, .int 3]) (r := []) (n := 2) (m := 2) (by with_unfolding_all rfl) rfl (by decide) (by with_unfolding_all rfl) (by decide) (by with_unfolding_all rfl) ⟨fun _ => am_rec_ok (c := 14) (by with_unfolding_all rfl) (by decide +kernel), fun z => by simp at z⟩
set_option maxRecDepth 20000 in
theorem b_200_22 {d nS : Nat} {x1 s0 : Int32} {M : am_M} {Q : Option Value → am_H → Prop} : am_Wp d 200 22 [.ref 205, .int x1] [.int s0] (hp nS M) Q = Q (some (.int s0)) (hp nS M) := by
  exact eq_retI2 (e := (.ireturn, 1, 0, 0, 0)) (t := .int) (by with_unfolding_all rfl) rfl (by with_unfolding_all rfl) rfl
set_option maxRecDepth 20000 in
theorem b_200_23 {d nS : Nat} {x1 : Int32} {M : am_M} {Q : Option Value → am_H → Prop} : am_Wp (d + 1) 200 23 [.ref 205, .int x1] [] (hp nS M) Q = am_Wp d 201 0 [.ref 205, .int (64 + (4 * x1)), .retAddr 0, .retAddr 0] [] (hp nS M) (fun v h1 => am_Wp (d + 1) 200 33 [.ref 205, .int x1] (am_ans v []) h1 Q) := by
  refine (eq_run 6 (q := (30, [.ref 205, .int x1], [.int (64 + (4 * x1)), .ref 205], hp nS M)) (by with_unfolding_all rfl)).trans ?_
  exact eq_call2 (e := (.invokevirtual 278, 3, 0, 201, 306)) (as := [.ref 205, .int (64 + (4 * x1))]) (r := []) (n := 2) (m := 4) (by with_unfolding_all rfl) rfl (by decide) (by with_unfolding_all rfl) (by decide) (by with_unfolding_all rfl) ⟨fun _ => am_rec_ok (c := 14) (by with_unfolding_all rfl) (by decide +kernel), fun z => by simp at z⟩
set_option maxRecDepth 20000 in
theorem b_200_33 {d nS : Nat} {x1 s0 : Int32} {M : am_M} {Q : Option Value → am_H → Prop} : am_Wp d 200 33 [.ref 205, .int x1] [.int s0] (hp nS M) Q = if ¬ s0 = (-1) then am_Wp d 200 39 [.ref 205, .int x1] [] (hp nS M) Q else am_Wp d 200 37 [.ref 205, .int x1] [] (hp nS M) Q := by
  refine (eq_run 1 (q := (34, [.ref 205, .int x1], [.int (-1), .int s0], hp nS M)) (by with_unfolding_all rfl)).trans ?_
  exact eq_cmp_ne (by with_unfolding_all rfl)
set_option maxRecDepth 20000 in
theorem b_200_37 {d nS : Nat} {x1 : Int32} {M : am_M} {Q : Option Value → am_H → Prop} : am_Wp d 200 37 [.ref 205, .int x1] [] (hp nS M) Q = Q (some (.int (-1))) (hp nS M) := by
  refine (eq_run 1 (q := (38, [.ref 205, .int x1], [.int (-1)], hp nS M)) (by with_unfolding_all rfl)).trans ?_
  exact eq_retI2 (e := (.ireturn, 1, 0, 0, 0)) (t := .int) (by with_unfolding_all rfl) rfl (by with_unfolding_all rfl) rfl
set_option maxRecDepth 20000 in
theorem b_200_39 {d nS : Nat} {x1 : Int32} {M : am_M} {Q : Option Value → am_H → Prop} : am_Wp d 200 39 [.ref 205, .int x1] [] (hp nS M) Q = am_Wp d 200 2 [.ref 205, .int (x1 + 1)] [] (hp nS M) Q := by
  exact eq_run 5 (q := (2, [.ref 205, .int (x1 + 1)], [], hp nS M)) (by with_unfolding_all rfl)
set_option maxRecDepth 20000 in
theorem b_200_46 {d nS : Nat} {x1 : Int32} {M : am_M} {Q : Option Value → am_H → Prop} : am_Wp d 200 46 [.ref 205, .int x1] [] (hp nS M) Q = if ¬ (M 205 18) = 0 then am_Wp d 200 57 [.ref 205, .int x1] [] (hp nS M) Q else am_Wp d 200 53 [.ref 205, .int x1] [] (hp nS M) Q := by
  refine (eq_run 2 (q := (50, [.ref 205, .int x1], [.int (M 205 18)], hp nS M)) (by with_unfolding_all rfl)).trans ?_
  exact eq_if_ne (by with_unfolding_all rfl)
set_option maxRecDepth 20000 in
theorem b_200_53 {d nS : Nat} {x1 : Int32} {M : am_M} {Q : Option Value → am_H → Prop} : am_Wp d 200 53 [.ref 205, .int x1] [] (hp nS M) Q = am_Wp d 200 62 [.ref 205, .int x1] [.int x1] (hp nS M) Q := by
  exact eq_run 2 (q := (62, [.ref 205, .int x1], [.int x1], hp nS M)) (by with_unfolding_all rfl)
set_option maxRecDepth 20000 in
theorem b_200_57 {d nS : Nat} {x1 : Int32} {M : am_M} {Q : Option Value → am_H → Prop} : am_Wp (d + 1) 200 57 [.ref 205, .int x1] [] (hp nS M) Q = am_Wp d 193 0 [.ref 205, .int 1] [] (hp nS M) (fun v h1 => am_Wp (d + 1) 200 62 [.ref 205, .int x1] (am_ans v []) h1 Q) := by
  refine (eq_run 2 (q := (59, [.ref 205, .int x1], [.int 1, .ref 205], hp nS M)) (by with_unfolding_all rfl)).trans ?_
  exact eq_call2 (e := (.invokevirtual 211, 3, 0, 193, 288)) (as := [.ref 205, .int 1]) (r := []) (n := 2) (m := 2) (by with_unfolding_all rfl) rfl (by decide) (by with_unfolding_all rfl) (by decide) (by with_unfolding_all rfl) ⟨fun _ => am_rec_ok (c := 14) (by with_unfolding_all rfl) (by decide +kernel), fun z => by simp at z⟩
set_option maxRecDepth 20000 in
theorem b_200_62 {d nS : Nat} {x1 s0 : Int32} {M : am_M} {Q : Option Value → am_H → Prop} : am_Wp d 200 62 [.ref 205, .int x1] [.int s0] (hp nS M) Q = Q (some (.int s0)) (hp nS M) := by
  exact eq_retI2 (e := (.ireturn, 1, 0, 0, 0)) (t := .int) (by with_unfolding_all rfl) rfl (by with_unfolding_all rfl) rfl
-- readTrade(I)I
set_option maxRecDepth 20000 in
theorem b_201_0 {d nS : Nat} {x1 : Int32} {M : am_M} {Q : Option Value → am_H → Prop} : am_Wp (d + 1) 201 0 [.ref 205, .int x1, .retAddr 0, .retAddr 0] [] (hp nS M) Q = am_Wp d 195 0 [.ref 205, .int 16, .int 0, .int 999] [] (hp nS M) (fun v h1 => am_Wp (d + 1) 201 15 [.ref 205, .int x1, .retAddr 0, .retAddr 0] (am_ans v [.int x1, .ref 223]) h1 Q) := by
  refine (eq_run 7 (q := (12, [.ref 205, .int x1, .retAddr 0, .retAddr 0], [.int 999, .int 0, .int 16, .ref 205, .int x1, .ref 223], hp nS M)) (by with_unfolding_all rfl)).trans ?_
  exact eq_call2 (e := (.invokevirtual 265, 3, 0, 195, 302)) (as := [.ref 205, .int 16, .int 0, .int 999]) (r := [.int x1, .ref 223]) (n := 4) (m := 4) (by with_unfolding_all rfl) rfl (by decide) (by with_unfolding_all rfl) (by decide) (by with_unfolding_all rfl) ⟨fun _ => am_rec_ok (c := 14) (by with_unfolding_all rfl) (by decide +kernel), fun z => by simp at z⟩
set_option maxRecDepth 20000 in
theorem b_201_15 {d nS : Nat} {x1 s1 s2 : Int32} {M : am_M} {Q : Option Value → am_H → Prop} (h1 : vp_in s1 128) (h2 : vp_in x1 128) : am_Wp d 201 15 [.ref 205, .int x1, .retAddr 0, .retAddr 0] [.int s2, .int s1, .ref 223] (hp nS M) Q = if ¬ ((am_up M 223 s1.toNatClampNeg s2) 223 x1.toNatClampNeg) = (-1) then am_Wp d 201 28 [.ref 205, .int x1, .retAddr 0, .retAddr 0] [] (hp nS (am_up M 223 s1.toNatClampNeg s2)) Q else am_Wp d 201 26 [.ref 205, .int x1, .retAddr 0, .retAddr 0] [] (hp nS (am_up M 223 s1.toNatClampNeg s2)) Q := by
  refine (eq_ast (e := (.iastore, 1, 0, 0, 0)) (by with_unfolding_all rfl) rfl (n := 128) (by with_unfolding_all rfl) (by decide) h1).trans ?_
  refine (eq_run 3 (q := (21, [.ref 205, .int x1, .retAddr 0, .retAddr 0], [.int x1, .ref 223], hp nS (am_up M 223 s1.toNatClampNeg s2))) (by with_unfolding_all rfl)).trans ?_
  refine (eq_ald (e := (.iaload, 1, 0, 0, 0)) (by with_unfolding_all rfl) rfl (n := 128) (by with_unfolding_all rfl) h2).trans ?_
  refine (eq_run 1 (q := (23, [.ref 205, .int x1, .retAddr 0, .retAddr 0], [.int (-1), .int ((am_up M 223 s1.toNatClampNeg s2) 223 x1.toNatClampNeg)], hp nS (am_up M 223 s1.toNatClampNeg s2))) (by with_unfolding_all rfl)).trans ?_
  exact eq_cmp_ne (by with_unfolding_all rfl)
set_option maxRecDepth 20000 in
theorem b_201_26 {d nS : Nat} {x1 : Int32} {M : am_M} {Q : Option Value → am_H → Prop} : am_Wp d 201 26 [.ref 205, .int x1, .retAddr 0, .retAddr 0] [] (hp nS M) Q = Q (some (.int (-1))) (hp nS M) := by
  refine (eq_run 1 (q := (27, [.ref 205, .int x1, .retAddr 0, .retAddr 0], [.int (-1)], hp nS M)) (by with_unfolding_all rfl)).trans ?_
  exact eq_retI2 (e := (.ireturn, 1, 0, 0, 0)) (t := .int) (by with_unfolding_all rfl) rfl (by with_unfolding_all rfl) rfl
set_option maxRecDepth 20000 in
theorem b_201_28 {d nS : Nat} {x1 : Int32} {M : am_M} {Q : Option Value → am_H → Prop} : am_Wp (d + 1) 201 28 [.ref 205, .int x1, .retAddr 0, .retAddr 0] [] (hp nS M) Q = am_Wp d 195 0 [.ref 205, .int 20, .int 0, .int ((M 205 10) - 1)] [] (hp nS M) (fun v h1 => am_Wp (d + 1) 201 48 [.ref 205, .int x1, .retAddr 0, .retAddr 0] (am_ans v [.int (x1 + 1), .ref 223]) h1 Q) := by
  refine (eq_run 12 (q := (45, [.ref 205, .int x1, .retAddr 0, .retAddr 0], [.int ((M 205 10) - 1), .int 0, .int 20, .ref 205, .int (x1 + 1), .ref 223], hp nS M)) (by with_unfolding_all rfl)).trans ?_
  exact eq_call2 (e := (.invokevirtual 265, 3, 0, 195, 302)) (as := [.ref 205, .int 20, .int 0, .int ((M 205 10) - 1)]) (r := [.int (x1 + 1), .ref 223]) (n := 4) (m := 4) (by with_unfolding_all rfl) rfl (by decide) (by with_unfolding_all rfl) (by decide) (by with_unfolding_all rfl) ⟨fun _ => am_rec_ok (c := 14) (by with_unfolding_all rfl) (by decide +kernel), fun z => by simp at z⟩
set_option maxRecDepth 20000 in
theorem b_201_48 {d nS : Nat} {x1 s1 s2 : Int32} {M : am_M} {Q : Option Value → am_H → Prop} (h1 : vp_in s1 128) (h2 : vp_in (x1 + 1) 128) : am_Wp d 201 48 [.ref 205, .int x1, .retAddr 0, .retAddr 0] [.int s2, .int s1, .ref 223] (hp nS M) Q = if ¬ ((am_up M 223 s1.toNatClampNeg s2) 223 (x1 + 1).toNatClampNeg) = (-1) then am_Wp d 201 63 [.ref 205, .int x1, .retAddr 0, .retAddr 0] [] (hp nS (am_up M 223 s1.toNatClampNeg s2)) Q else am_Wp d 201 61 [.ref 205, .int x1, .retAddr 0, .retAddr 0] [] (hp nS (am_up M 223 s1.toNatClampNeg s2)) Q := by
  refine (eq_ast (e := (.iastore, 1, 0, 0, 0)) (by with_unfolding_all rfl) rfl (n := 128) (by with_unfolding_all rfl) (by decide) h1).trans ?_
  refine (eq_run 5 (q := (56, [.ref 205, .int x1, .retAddr 0, .retAddr 0], [.int (x1 + 1), .ref 223], hp nS (am_up M 223 s1.toNatClampNeg s2))) (by with_unfolding_all rfl)).trans ?_
  refine (eq_ald (e := (.iaload, 1, 0, 0, 0)) (by with_unfolding_all rfl) rfl (n := 128) (by with_unfolding_all rfl) h2).trans ?_
  refine (eq_run 1 (q := (58, [.ref 205, .int x1, .retAddr 0, .retAddr 0], [.int (-1), .int ((am_up M 223 s1.toNatClampNeg s2) 223 (x1 + 1).toNatClampNeg)], hp nS (am_up M 223 s1.toNatClampNeg s2))) (by with_unfolding_all rfl)).trans ?_
  exact eq_cmp_ne (by with_unfolding_all rfl)
set_option maxRecDepth 20000 in
theorem b_201_61 {d nS : Nat} {x1 : Int32} {M : am_M} {Q : Option Value → am_H → Prop} : am_Wp d 201 61 [.ref 205, .int x1, .retAddr 0, .retAddr 0] [] (hp nS M) Q = Q (some (.int (-1))) (hp nS M) := by
  refine (eq_run 1 (q := (62, [.ref 205, .int x1, .retAddr 0, .retAddr 0], [.int (-1)], hp nS M)) (by with_unfolding_all rfl)).trans ?_
  exact eq_retI2 (e := (.ireturn, 1, 0, 0, 0)) (t := .int) (by with_unfolding_all rfl) rfl (by with_unfolding_all rfl) rfl
set_option maxRecDepth 20000 in
theorem b_201_63 {d nS : Nat} {x1 : Int32} {M : am_M} {Q : Option Value → am_H → Prop} : am_Wp (d + 1) 201 63 [.ref 205, .int x1, .retAddr 0, .retAddr 0] [] (hp nS M) Q = am_Wp d 192 0 [.ref 205, .int 21] [] (hp nS M) (fun v h1 => am_Wp (d + 1) 201 69 [.ref 205, .int x1, .retAddr 0, .retAddr 0] (am_ans v []) h1 Q) := by
  refine (eq_run 2 (q := (66, [.ref 205, .int x1, .retAddr 0, .retAddr 0], [.int 21, .ref 205], hp nS M)) (by with_unfolding_all rfl)).trans ?_
  exact eq_call2 (e := (.invokevirtual 240, 3, 0, 192, 295)) (as := [.ref 205, .int 21]) (r := []) (n := 2) (m := 2) (by with_unfolding_all rfl) rfl (by decide) (by with_unfolding_all rfl) (by decide) (by with_unfolding_all rfl) ⟨fun _ => am_rec_ok (c := 14) (by with_unfolding_all rfl) (by decide +kernel), fun z => by simp at z⟩
set_option maxRecDepth 20000 in
theorem b_201_69 {d nS : Nat} {x1 s0 : Int32} {M : am_M} {Q : Option Value → am_H → Prop} : am_Wp d 201 69 [.ref 205, .int x1, .retAddr 0, .retAddr 0] [.int s0] (hp nS M) Q = if ¬ s0 = 0 then am_Wp d 201 89 [.ref 205, .int x1, .int s0, .retAddr 0] [] (hp nS M) Q else am_Wp d 201 74 [.ref 205, .int x1, .int s0, .retAddr 0] [] (hp nS M) Q := by
  refine (eq_run 2 (q := (71, [.ref 205, .int x1, .int s0, .retAddr 0], [.int s0], hp nS M)) (by with_unfolding_all rfl)).trans ?_
  exact eq_if_ne (by with_unfolding_all rfl)
set_option maxRecDepth 20000 in
theorem b_201_74 {d nS : Nat} {x1 x2 : Int32} {M : am_M} {Q : Option Value → am_H → Prop} : am_Wp (d + 1) 201 74 [.ref 205, .int x1, .int x2, .retAddr 0] [] (hp nS M) Q = am_Wp d 192 0 [.ref 205, .int 22] [] (hp nS M) (fun v h1 => am_Wp (d + 1) 201 80 [.ref 205, .int x1, .int x2, .retAddr 0] (am_ans v []) h1 Q) := by
  refine (eq_run 2 (q := (77, [.ref 205, .int x1, .int x2, .retAddr 0], [.int 22, .ref 205], hp nS M)) (by with_unfolding_all rfl)).trans ?_
  exact eq_call2 (e := (.invokevirtual 240, 3, 0, 192, 295)) (as := [.ref 205, .int 22]) (r := []) (n := 2) (m := 2) (by with_unfolding_all rfl) rfl (by decide) (by with_unfolding_all rfl) (by decide) (by with_unfolding_all rfl) ⟨fun _ => am_rec_ok (c := 14) (by with_unfolding_all rfl) (by decide +kernel), fun z => by simp at z⟩
set_option maxRecDepth 20000 in
theorem b_201_80 {d nS : Nat} {x1 x2 s0 : Int32} {M : am_M} {Q : Option Value → am_H → Prop} : am_Wp d 201 80 [.ref 205, .int x1, .int x2, .retAddr 0] [.int s0] (hp nS M) Q = if ¬ s0 = 0 then am_Wp d 201 89 [.ref 205, .int x1, .int x2, .retAddr 0] [] (hp nS M) Q else am_Wp d 201 83 [.ref 205, .int x1, .int x2, .retAddr 0] [] (hp nS M) Q := by
  exact eq_if_ne (by with_unfolding_all rfl)
set_option maxRecDepth 20000 in
theorem b_201_83 {d nS : Nat} {x1 x2 : Int32} {M : am_M} {Q : Option Value → am_H → Prop} : am_Wp (d + 1) 201 83 [.ref 205, .int x1, .int x2, .retAddr 0] [] (hp nS M) Q = am_Wp d 193 0 [.ref 205, .int 1] [] (hp nS M) (fun v h1 => am_Wp (d + 1) 201 88 [.ref 205, .int x1, .int x2, .retAddr 0] (am_ans v []) h1 Q) := by
  refine (eq_run 2 (q := (85, [.ref 205, .int x1, .int x2, .retAddr 0], [.int 1, .ref 205], hp nS M)) (by with_unfolding_all rfl)).trans ?_
  exact eq_call2 (e := (.invokevirtual 211, 3, 0, 193, 288)) (as := [.ref 205, .int 1]) (r := []) (n := 2) (m := 2) (by with_unfolding_all rfl) rfl (by decide) (by with_unfolding_all rfl) (by decide) (by with_unfolding_all rfl) ⟨fun _ => am_rec_ok (c := 14) (by with_unfolding_all rfl) (by decide +kernel), fun z => by simp at z⟩
set_option maxRecDepth 20000 in
theorem b_201_88 {d nS : Nat} {x1 x2 s0 : Int32} {M : am_M} {Q : Option Value → am_H → Prop} : am_Wp d 201 88 [.ref 205, .int x1, .int x2, .retAddr 0] [.int s0] (hp nS M) Q = Q (some (.int s0)) (hp nS M) := by
  exact eq_retI2 (e := (.ireturn, 1, 0, 0, 0)) (t := .int) (by with_unfolding_all rfl) rfl (by with_unfolding_all rfl) rfl
set_option maxRecDepth 20000 in
theorem b_201_89 {d nS : Nat} {x1 x2 : Int32} {M : am_M} {Q : Option Value → am_H → Prop} : am_Wp (d + 1) 201 89 [.ref 205, .int x1, .int x2, .retAddr 0] [] (hp nS M) Q = am_Wp d 185 0 [.ref 205, .retAddr 0] [] (hp nS M) (fun v h1 => am_Wp (d + 1) 201 93 [.ref 205, .int x1, .int x2, .retAddr 0] (am_ans v []) h1 Q) := by
  refine (eq_run 1 (q := (90, [.ref 205, .int x1, .int x2, .retAddr 0], [.ref 205], hp nS M)) (by with_unfolding_all rfl)).trans ?_
  exact eq_call2 (e := (.invokevirtual 218, 3, 0, 185, 290)) (as := [.ref 205]) (r := []) (n := 1) (m := 2) (by with_unfolding_all rfl) rfl (by decide) (by with_unfolding_all rfl) (by decide) (by with_unfolding_all rfl) ⟨fun _ => am_rec_ok (c := 14) (by with_unfolding_all rfl) (by decide +kernel), fun z => by simp at z⟩
set_option maxRecDepth 20000 in
theorem b_201_93 {d nS : Nat} {x1 x2 : Int32} {M : am_M} {Q : Option Value → am_H → Prop} : am_Wp (d + 1) 201 93 [.ref 205, .int x1, .int x2, .retAddr 0] [] (hp nS M) Q = am_Wp d 196 0 [.ref 205, .int 1, .int 99, .retAddr 0] [] (hp nS M) (fun v h1 => am_Wp (d + 1) 201 100 [.ref 205, .int x1, .int x2, .retAddr 0] (am_ans v []) h1 Q) := by
  refine (eq_run 3 (q := (97, [.ref 205, .int x1, .int x2, .retAddr 0], [.int 99, .int 1, .ref 205], hp nS M)) (by with_unfolding_all rfl)).trans ?_
  exact eq_call2 (e := (.invokevirtual 262, 3, 0, 196, 301)) (as := [.ref 205, .int 1, .int 99]) (r := []) (n := 3) (m := 4) (by with_unfolding_all rfl) rfl (by decide) (by with_unfolding_all rfl) (by decide) (by with_unfolding_all rfl) ⟨fun _ => am_rec_ok (c := 14) (by with_unfolding_all rfl) (by decide +kernel), fun z => by simp at z⟩
set_option maxRecDepth 20000 in
theorem b_201_100 {d nS : Nat} {x1 x2 s0 : Int32} {M : am_M} {Q : Option Value → am_H → Prop} : am_Wp d 201 100 [.ref 205, .int x1, .int x2, .retAddr 0] [.int s0] (hp nS M) Q = if ¬ s0 = (-1) then am_Wp d 201 108 [.ref 205, .int x1, .int x2, .int s0] [] (hp nS M) Q else am_Wp d 201 106 [.ref 205, .int x1, .int x2, .int s0] [] (hp nS M) Q := by
  refine (eq_run 3 (q := (103, [.ref 205, .int x1, .int x2, .int s0], [.int (-1), .int s0], hp nS M)) (by with_unfolding_all rfl)).trans ?_
  exact eq_cmp_ne (by with_unfolding_all rfl)
set_option maxRecDepth 20000 in
theorem b_201_106 {d nS : Nat} {x1 x2 x3 : Int32} {M : am_M} {Q : Option Value → am_H → Prop} : am_Wp d 201 106 [.ref 205, .int x1, .int x2, .int x3] [] (hp nS M) Q = Q (some (.int (-1))) (hp nS M) := by
  refine (eq_run 1 (q := (107, [.ref 205, .int x1, .int x2, .int x3], [.int (-1)], hp nS M)) (by with_unfolding_all rfl)).trans ?_
  exact eq_retI2 (e := (.ireturn, 1, 0, 0, 0)) (t := .int) (by with_unfolding_all rfl) rfl (by with_unfolding_all rfl) rfl
set_option maxRecDepth 20000 in
theorem b_201_108 {d nS : Nat} {x1 x2 x3 : Int32} {M : am_M} {Q : Option Value → am_H → Prop} : am_Wp d 201 108 [.ref 205, .int x1, .int x2, .int x3] [] (hp nS M) Q = if x2 = 0 then am_Wp d 201 123 [.ref 205, .int x1, .int x2, .int x3] [.int (x1 + 2), .ref 223] (hp nS M) Q else am_Wp d 201 119 [.ref 205, .int x1, .int x2, .int x3] [.int (x1 + 2), .ref 223] (hp nS M) Q := by
  refine (eq_run 6 (q := (116, [.ref 205, .int x1, .int x2, .int x3], [.int x2, .int (x1 + 2), .ref 223], hp nS M)) (by with_unfolding_all rfl)).trans ?_
  exact eq_if_eq (by with_unfolding_all rfl)
set_option maxRecDepth 20000 in
theorem b_201_119 {d nS : Nat} {x1 x2 x3 s1 : Int32} {M : am_M} {Q : Option Value → am_H → Prop} : am_Wp d 201 119 [.ref 205, .int x1, .int x2, .int x3] [.int s1, .ref 223] (hp nS M) Q = am_Wp d 201 125 [.ref 205, .int x1, .int x2, .int x3] [.int x3, .int s1, .ref 223] (hp nS M) Q := by
  exact eq_run 2 (q := (125, [.ref 205, .int x1, .int x2, .int x3], [.int x3, .int s1, .ref 223], hp nS M)) (by with_unfolding_all rfl)
set_option maxRecDepth 20000 in
theorem b_201_123 {d nS : Nat} {x1 x2 x3 s1 : Int32} {M : am_M} {Q : Option Value → am_H → Prop} : am_Wp d 201 123 [.ref 205, .int x1, .int x2, .int x3] [.int s1, .ref 223] (hp nS M) Q = am_Wp d 201 125 [.ref 205, .int x1, .int x2, .int x3] [.int (-x3), .int s1, .ref 223] (hp nS M) Q := by
  exact eq_run 2 (q := (125, [.ref 205, .int x1, .int x2, .int x3], [.int (-x3), .int s1, .ref 223], hp nS M)) (by with_unfolding_all rfl)
set_option maxRecDepth 20000 in
theorem b_201_125 {d nS : Nat} {x1 x2 x3 s1 s2 : Int32} {M : am_M} {Q : Option Value → am_H → Prop} (h1 : vp_in s1 128) : am_Wp (d + 1) 201 125 [.ref 205, .int x1, .int x2, .int x3] [.int s2, .int s1, .ref 223] (hp nS M) Q = am_Wp d 195 0 [.ref 205, .int 23, .int 0, .int (((am_up M 223 s1.toNatClampNeg s2) 205 9) - 1)] [] (hp nS (am_up M 223 s1.toNatClampNeg s2)) (fun v h1 => am_Wp (d + 1) 201 146 [.ref 205, .int x1, .int x2, .int x3] (am_ans v [.int (x1 + 3), .ref 223]) h1 Q) := by
  refine (eq_ast (e := (.iastore, 1, 0, 0, 0)) (by with_unfolding_all rfl) rfl (n := 128) (by with_unfolding_all rfl) (by decide) h1).trans ?_
  refine (eq_run 12 (q := (143, [.ref 205, .int x1, .int x2, .int x3], [.int (((am_up M 223 s1.toNatClampNeg s2) 205 9) - 1), .int 0, .int 23, .ref 205, .int (x1 + 3), .ref 223], hp nS (am_up M 223 s1.toNatClampNeg s2))) (by with_unfolding_all rfl)).trans ?_
  exact eq_call2 (e := (.invokevirtual 265, 3, 0, 195, 302)) (as := [.ref 205, .int 23, .int 0, .int (((am_up M 223 s1.toNatClampNeg s2) 205 9) - 1)]) (r := [.int (x1 + 3), .ref 223]) (n := 4) (m := 4) (by with_unfolding_all rfl) rfl (by decide) (by with_unfolding_all rfl) (by decide) (by with_unfolding_all rfl) ⟨fun _ => am_rec_ok (c := 14) (by with_unfolding_all rfl) (by decide +kernel), fun z => by simp at z⟩
set_option maxRecDepth 20000 in
theorem b_201_146 {d nS : Nat} {x1 x2 x3 s1 s2 : Int32} {M : am_M} {Q : Option Value → am_H → Prop} (h1 : vp_in s1 128) (h2 : vp_in (x1 + 3) 128) : am_Wp d 201 146 [.ref 205, .int x1, .int x2, .int x3] [.int s2, .int s1, .ref 223] (hp nS M) Q = if ¬ ((am_up M 223 s1.toNatClampNeg s2) 223 (x1 + 3).toNatClampNeg) = (-1) then am_Wp d 201 163 [.ref 205, .int x1, .int x2, .int x3] [] (hp nS (am_up M 223 s1.toNatClampNeg s2)) Q else am_Wp d 201 159 [.ref 205, .int x1, .int x2, .int x3] [] (hp nS (am_up M 223 s1.toNatClampNeg s2)) Q := by
  refine (eq_ast (e := (.iastore, 1, 0, 0, 0)) (by with_unfolding_all rfl) rfl (n := 128) (by with_unfolding_all rfl) (by decide) h1).trans ?_
  refine (eq_run 5 (q := (154, [.ref 205, .int x1, .int x2, .int x3], [.int (x1 + 3), .ref 223], hp nS (am_up M 223 s1.toNatClampNeg s2))) (by with_unfolding_all rfl)).trans ?_
  refine (eq_ald (e := (.iaload, 1, 0, 0, 0)) (by with_unfolding_all rfl) rfl (n := 128) (by with_unfolding_all rfl) h2).trans ?_
  refine (eq_run 1 (q := (156, [.ref 205, .int x1, .int x2, .int x3], [.int (-1), .int ((am_up M 223 s1.toNatClampNeg s2) 223 (x1 + 3).toNatClampNeg)], hp nS (am_up M 223 s1.toNatClampNeg s2))) (by with_unfolding_all rfl)).trans ?_
  exact eq_cmp_ne (by with_unfolding_all rfl)
set_option maxRecDepth 20000 in
theorem b_201_159 {d nS : Nat} {x1 x2 x3 : Int32} {M : am_M} {Q : Option Value → am_H → Prop} : am_Wp d 201 159 [.ref 205, .int x1, .int x2, .int x3] [] (hp nS M) Q = am_Wp d 201 169 [.ref 205, .int x1, .int x2, .int x3] [.int (-1)] (hp nS M) Q := by
  exact eq_run 2 (q := (169, [.ref 205, .int x1, .int x2, .int x3], [.int (-1)], hp nS M)) (by with_unfolding_all rfl)
set_option maxRecDepth 20000 in
theorem b_201_163 {d nS : Nat} {x1 x2 x3 : Int32} {M : am_M} {Q : Option Value → am_H → Prop} : am_Wp (d + 1) 201 163 [.ref 205, .int x1, .int x2, .int x3] [] (hp nS M) Q = am_Wp d 198 0 [.ref 205, .int 59] [] (hp nS M) (fun v h1 => am_Wp (d + 1) 201 169 [.ref 205, .int x1, .int x2, .int x3] (am_ans v []) h1 Q) := by
  refine (eq_run 2 (q := (166, [.ref 205, .int x1, .int x2, .int x3], [.int 59, .ref 205], hp nS M)) (by with_unfolding_all rfl)).trans ?_
  exact eq_call2 (e := (.invokevirtual 272, 3, 0, 198, 304)) (as := [.ref 205, .int 59]) (r := []) (n := 2) (m := 2) (by with_unfolding_all rfl) rfl (by decide) (by with_unfolding_all rfl) (by decide) (by with_unfolding_all rfl) ⟨fun _ => am_rec_ok (c := 14) (by with_unfolding_all rfl) (by decide +kernel), fun z => by simp at z⟩
set_option maxRecDepth 20000 in
theorem b_201_169 {d nS : Nat} {x1 x2 x3 s0 : Int32} {M : am_M} {Q : Option Value → am_H → Prop} : am_Wp d 201 169 [.ref 205, .int x1, .int x2, .int x3] [.int s0] (hp nS M) Q = Q (some (.int s0)) (hp nS M) := by
  exact eq_retI2 (e := (.ireturn, 1, 0, 0, 0)) (t := .int) (by with_unfolding_all rfl) rfl (by with_unfolding_all rfl) rfl
-- readBound()I
set_option maxRecDepth 20000 in
theorem b_202_0 {d nS : Nat} {M : am_M} {Q : Option Value → am_H → Prop} : am_Wp d 202 0 [.ref 205, .retAddr 0] [] (hp nS M) Q = am_Wp d 202 2 [.ref 205, .int 0] [] (hp nS M) Q := by
  exact eq_run 2 (q := (2, [.ref 205, .int 0], [], hp nS M)) (by with_unfolding_all rfl)
set_option maxRecDepth 20000 in
theorem b_202_2 {d nS : Nat} {x1 : Int32} {M : am_M} {Q : Option Value → am_H → Prop} : am_Wp d 202 2 [.ref 205, .int x1] [] (hp nS M) Q = if 8 ≤ x1 then am_Wp d 202 24 [.ref 205, .int x1] [] (hp nS M) Q else am_Wp d 202 8 [.ref 205, .int x1] [] (hp nS M) Q := by
  refine (eq_run 2 (q := (5, [.ref 205, .int x1], [.int 8, .int x1], hp nS M)) (by with_unfolding_all rfl)).trans ?_
  exact eq_cmp_ge (by with_unfolding_all rfl)
set_option maxRecDepth 20000 in
theorem b_202_8 {d nS : Nat} {x1 : Int32} {M : am_M} {Q : Option Value → am_H → Prop} (h1 : vp_in (8 + x1) 16) : am_Wp d 202 8 [.ref 205, .int x1] [] (hp nS M) Q = am_Wp d 202 2 [.ref 205, .int (x1 + 1)] [] (hp nS (am_up M 224 (8 + x1).toNatClampNeg 0)) Q := by
  refine (eq_run 6 (q := (17, [.ref 205, .int x1], [.int 0, .int (8 + x1), .ref 224], hp nS M)) (by with_unfolding_all rfl)).trans ?_
  refine (eq_ast (e := (.iastore, 1, 0, 0, 0)) (by with_unfolding_all rfl) rfl (n := 16) (by with_unfolding_all rfl) (by decide) h1).trans ?_
  exact eq_run 2 (q := (2, [.ref 205, .int (x1 + 1)], [], hp nS (am_up M 224 (8 + x1).toNatClampNeg 0))) (by with_unfolding_all rfl)
set_option maxRecDepth 20000 in
theorem b_202_24 {d nS : Nat} {x1 : Int32} {M : am_M} {Q : Option Value → am_H → Prop} : am_Wp d 202 24 [.ref 205, .int x1] [] (hp nS M) Q = am_Wp d 202 26 [.ref 205, .int 0] [] (hp nS M) Q := by
  exact eq_run 2 (q := (26, [.ref 205, .int 0], [], hp nS M)) (by with_unfolding_all rfl)
set_option maxRecDepth 20000 in
theorem b_202_26 {d nS : Nat} {x1 : Int32} {M : am_M} {Q : Option Value → am_H → Prop} : am_Wp (d + 1) 202 26 [.ref 205, .int x1] [] (hp nS M) Q = am_Wp d 192 0 [.ref 205, .int 24] [] (hp nS M) (fun v h1 => am_Wp (d + 1) 202 32 [.ref 205, .int x1] (am_ans v []) h1 Q) := by
  refine (eq_run 2 (q := (29, [.ref 205, .int x1], [.int 24, .ref 205], hp nS M)) (by with_unfolding_all rfl)).trans ?_
  exact eq_call2 (e := (.invokevirtual 240, 3, 0, 192, 295)) (as := [.ref 205, .int 24]) (r := []) (n := 2) (m := 2) (by with_unfolding_all rfl) rfl (by decide) (by with_unfolding_all rfl) (by decide) (by with_unfolding_all rfl) ⟨fun _ => am_rec_ok (c := 14) (by with_unfolding_all rfl) (by decide +kernel), fun z => by simp at z⟩
set_option maxRecDepth 20000 in
theorem b_202_32 {d nS : Nat} {x1 s0 : Int32} {M : am_M} {Q : Option Value → am_H → Prop} : am_Wp d 202 32 [.ref 205, .int x1] [.int s0] (hp nS M) Q = if s0 = 0 then am_Wp d 202 64 [.ref 205, .int x1] [] (hp nS M) Q else am_Wp d 202 35 [.ref 205, .int x1] [] (hp nS M) Q := by
  exact eq_if_eq (by with_unfolding_all rfl)
set_option maxRecDepth 20000 in
theorem b_202_35 {d nS : Nat} {x1 : Int32} {M : am_M} {Q : Option Value → am_H → Prop} : am_Wp d 202 35 [.ref 205, .int x1] [] (hp nS M) Q = if ¬ x1 = 16 then am_Wp d 202 47 [.ref 205, .int x1] [] (hp nS M) Q else am_Wp d 202 41 [.ref 205, .int x1] [] (hp nS M) Q := by
  refine (eq_run 2 (q := (38, [.ref 205, .int x1], [.int 16, .int x1], hp nS M)) (by with_unfolding_all rfl)).trans ?_
  exact eq_cmp_ne (by with_unfolding_all rfl)
set_option maxRecDepth 20000 in
theorem b_202_41 {d nS : Nat} {x1 : Int32} {M : am_M} {Q : Option Value → am_H → Prop} : am_Wp (d + 1) 202 41 [.ref 205, .int x1] [] (hp nS M) Q = am_Wp d 193 0 [.ref 205, .int 3] [] (hp nS M) (fun v h1 => am_Wp (d + 1) 202 46 [.ref 205, .int x1] (am_ans v []) h1 Q) := by
  refine (eq_run 2 (q := (43, [.ref 205, .int x1], [.int 3, .ref 205], hp nS M)) (by with_unfolding_all rfl)).trans ?_
  exact eq_call2 (e := (.invokevirtual 211, 3, 0, 193, 288)) (as := [.ref 205, .int 3]) (r := []) (n := 2) (m := 2) (by with_unfolding_all rfl) rfl (by decide) (by with_unfolding_all rfl) (by decide) (by with_unfolding_all rfl) ⟨fun _ => am_rec_ok (c := 14) (by with_unfolding_all rfl) (by decide +kernel), fun z => by simp at z⟩
set_option maxRecDepth 20000 in
theorem b_202_46 {d nS : Nat} {x1 s0 : Int32} {M : am_M} {Q : Option Value → am_H → Prop} : am_Wp d 202 46 [.ref 205, .int x1] [.int s0] (hp nS M) Q = Q (some (.int s0)) (hp nS M) := by
  exact eq_retI2 (e := (.ireturn, 1, 0, 0, 0)) (t := .int) (by with_unfolding_all rfl) rfl (by with_unfolding_all rfl) rfl
set_option maxRecDepth 20000 in
theorem b_202_47 {d nS : Nat} {x1 : Int32} {M : am_M} {Q : Option Value → am_H → Prop} : am_Wp (d + 1) 202 47 [.ref 205, .int x1] [] (hp nS M) Q = am_Wp d 203 0 [.ref 205, .retAddr 0, .retAddr 0] [] (hp nS M) (fun v h1 => am_Wp (d + 1) 202 51 [.ref 205, .int x1] (am_ans v []) h1 Q) := by
  refine (eq_run 1 (q := (48, [.ref 205, .int x1], [.ref 205], hp nS M)) (by with_unfolding_all rfl)).trans ?_
  exact eq_call2 (e := (.invokevirtual 281, 3, 0, 203, 307)) (as := [.ref 205]) (r := []) (n := 1) (m := 3) (by with_unfolding_all rfl) rfl (by decide) (by with_unfolding_all rfl) (by decide) (by with_unfolding_all rfl) ⟨fun _ => am_rec_ok (c := 14) (by with_unfolding_all rfl) (by decide +kernel), fun z => by simp at z⟩
set_option maxRecDepth 20000 in
theorem b_202_51 {d nS : Nat} {x1 s0 : Int32} {M : am_M} {Q : Option Value → am_H → Prop} : am_Wp d 202 51 [.ref 205, .int x1] [.int s0] (hp nS M) Q = if ¬ s0 = (-1) then am_Wp d 202 57 [.ref 205, .int x1] [] (hp nS M) Q else am_Wp d 202 55 [.ref 205, .int x1] [] (hp nS M) Q := by
  refine (eq_run 1 (q := (52, [.ref 205, .int x1], [.int (-1), .int s0], hp nS M)) (by with_unfolding_all rfl)).trans ?_
  exact eq_cmp_ne (by with_unfolding_all rfl)
set_option maxRecDepth 20000 in
theorem b_202_55 {d nS : Nat} {x1 : Int32} {M : am_M} {Q : Option Value → am_H → Prop} : am_Wp d 202 55 [.ref 205, .int x1] [] (hp nS M) Q = Q (some (.int (-1))) (hp nS M) := by
  refine (eq_run 1 (q := (56, [.ref 205, .int x1], [.int (-1)], hp nS M)) (by with_unfolding_all rfl)).trans ?_
  exact eq_retI2 (e := (.ireturn, 1, 0, 0, 0)) (t := .int) (by with_unfolding_all rfl) rfl (by with_unfolding_all rfl) rfl
set_option maxRecDepth 20000 in
theorem b_202_57 {d nS : Nat} {x1 : Int32} {M : am_M} {Q : Option Value → am_H → Prop} : am_Wp d 202 57 [.ref 205, .int x1] [] (hp nS M) Q = am_Wp d 202 26 [.ref 205, .int (x1 + 1)] [] (hp nS M) Q := by
  exact eq_run 5 (q := (26, [.ref 205, .int (x1 + 1)], [], hp nS M)) (by with_unfolding_all rfl)
set_option maxRecDepth 20000 in
theorem b_202_64 {d nS : Nat} {x1 : Int32} {M : am_M} {Q : Option Value → am_H → Prop} : am_Wp d 202 64 [.ref 205, .int x1] [] (hp nS M) Q = if ¬ (M 205 18) = 0 then am_Wp d 202 75 [.ref 205, .int x1] [] (hp nS M) Q else am_Wp d 202 71 [.ref 205, .int x1] [] (hp nS M) Q := by
  refine (eq_run 2 (q := (68, [.ref 205, .int x1], [.int (M 205 18)], hp nS M)) (by with_unfolding_all rfl)).trans ?_
  exact eq_if_ne (by with_unfolding_all rfl)
set_option maxRecDepth 20000 in
theorem b_202_71 {d nS : Nat} {x1 : Int32} {M : am_M} {Q : Option Value → am_H → Prop} : am_Wp d 202 71 [.ref 205, .int x1] [] (hp nS M) Q = am_Wp d 202 80 [.ref 205, .int x1] [.int x1] (hp nS M) Q := by
  exact eq_run 2 (q := (80, [.ref 205, .int x1], [.int x1], hp nS M)) (by with_unfolding_all rfl)
set_option maxRecDepth 20000 in
theorem b_202_75 {d nS : Nat} {x1 : Int32} {M : am_M} {Q : Option Value → am_H → Prop} : am_Wp (d + 1) 202 75 [.ref 205, .int x1] [] (hp nS M) Q = am_Wp d 193 0 [.ref 205, .int 1] [] (hp nS M) (fun v h1 => am_Wp (d + 1) 202 80 [.ref 205, .int x1] (am_ans v []) h1 Q) := by
  refine (eq_run 2 (q := (77, [.ref 205, .int x1], [.int 1, .ref 205], hp nS M)) (by with_unfolding_all rfl)).trans ?_
  exact eq_call2 (e := (.invokevirtual 211, 3, 0, 193, 288)) (as := [.ref 205, .int 1]) (r := []) (n := 2) (m := 2) (by with_unfolding_all rfl) rfl (by decide) (by with_unfolding_all rfl) (by decide) (by with_unfolding_all rfl) ⟨fun _ => am_rec_ok (c := 14) (by with_unfolding_all rfl) (by decide +kernel), fun z => by simp at z⟩
set_option maxRecDepth 20000 in
theorem b_202_80 {d nS : Nat} {x1 s0 : Int32} {M : am_M} {Q : Option Value → am_H → Prop} : am_Wp d 202 80 [.ref 205, .int x1] [.int s0] (hp nS M) Q = Q (some (.int s0)) (hp nS M) := by
  exact eq_retI2 (e := (.ireturn, 1, 0, 0, 0)) (t := .int) (by with_unfolding_all rfl) rfl (by with_unfolding_all rfl) rfl
-- readBoundOne()I
set_option maxRecDepth 20000 in
theorem b_203_0 {d nS : Nat} {M : am_M} {Q : Option Value → am_H → Prop} : am_Wp (d + 1) 203 0 [.ref 205, .retAddr 0, .retAddr 0] [] (hp nS M) Q = am_Wp d 195 0 [.ref 205, .int 24, .int 0, .int ((M 205 9) - 1)] [] (hp nS M) (fun v h1 => am_Wp (d + 1) 203 13 [.ref 205, .retAddr 0, .retAddr 0] (am_ans v []) h1 Q) := by
  refine (eq_run 7 (q := (10, [.ref 205, .retAddr 0, .retAddr 0], [.int ((M 205 9) - 1), .int 0, .int 24, .ref 205], hp nS M)) (by with_unfolding_all rfl)).trans ?_
  exact eq_call2 (e := (.invokevirtual 265, 3, 0, 195, 302)) (as := [.ref 205, .int 24, .int 0, .int ((M 205 9) - 1)]) (r := []) (n := 4) (m := 4) (by with_unfolding_all rfl) rfl (by decide) (by with_unfolding_all rfl) (by decide) (by with_unfolding_all rfl) ⟨fun _ => am_rec_ok (c := 14) (by with_unfolding_all rfl) (by decide +kernel), fun z => by simp at z⟩
set_option maxRecDepth 20000 in
theorem b_203_13 {d nS : Nat} {s0 : Int32} {M : am_M} {Q : Option Value → am_H → Prop} : am_Wp d 203 13 [.ref 205, .retAddr 0, .retAddr 0] [.int s0] (hp nS M) Q = if ¬ s0 = (-1) then am_Wp d 203 21 [.ref 205, .int s0, .retAddr 0] [] (hp nS M) Q else am_Wp d 203 19 [.ref 205, .int s0, .retAddr 0] [] (hp nS M) Q := by
  refine (eq_run 3 (q := (16, [.ref 205, .int s0, .retAddr 0], [.int (-1), .int s0], hp nS M)) (by with_unfolding_all rfl)).trans ?_
  exact eq_cmp_ne (by with_unfolding_all rfl)
set_option maxRecDepth 20000 in
theorem b_203_19 {d nS : Nat} {x1 : Int32} {M : am_M} {Q : Option Value → am_H → Prop} : am_Wp d 203 19 [.ref 205, .int x1, .retAddr 0] [] (hp nS M) Q = Q (some (.int (-1))) (hp nS M) := by
  refine (eq_run 1 (q := (20, [.ref 205, .int x1, .retAddr 0], [.int (-1)], hp nS M)) (by with_unfolding_all rfl)).trans ?_
  exact eq_retI2 (e := (.ireturn, 1, 0, 0, 0)) (t := .int) (by with_unfolding_all rfl) rfl (by with_unfolding_all rfl) rfl
set_option maxRecDepth 20000 in
theorem b_203_21 {d nS : Nat} {x1 : Int32} {M : am_M} {Q : Option Value → am_H → Prop} : am_Wp (d + 1) 203 21 [.ref 205, .int x1, .retAddr 0] [] (hp nS M) Q = am_Wp d 195 0 [.ref 205, .int 25, .int 0, .int ((M 205 8) - 1)] [] (hp nS M) (fun v h1 => am_Wp (d + 1) 203 34 [.ref 205, .int x1, .retAddr 0] (am_ans v []) h1 Q) := by
  refine (eq_run 7 (q := (31, [.ref 205, .int x1, .retAddr 0], [.int ((M 205 8) - 1), .int 0, .int 25, .ref 205], hp nS M)) (by with_unfolding_all rfl)).trans ?_
  exact eq_call2 (e := (.invokevirtual 265, 3, 0, 195, 302)) (as := [.ref 205, .int 25, .int 0, .int ((M 205 8) - 1)]) (r := []) (n := 4) (m := 4) (by with_unfolding_all rfl) rfl (by decide) (by with_unfolding_all rfl) (by decide) (by with_unfolding_all rfl) ⟨fun _ => am_rec_ok (c := 14) (by with_unfolding_all rfl) (by decide +kernel), fun z => by simp at z⟩
set_option maxRecDepth 20000 in
theorem b_203_34 {d nS : Nat} {x1 s0 : Int32} {M : am_M} {Q : Option Value → am_H → Prop} : am_Wp d 203 34 [.ref 205, .int x1, .retAddr 0] [.int s0] (hp nS M) Q = if ¬ s0 = (-1) then am_Wp d 203 42 [.ref 205, .int x1, .int s0] [] (hp nS M) Q else am_Wp d 203 40 [.ref 205, .int x1, .int s0] [] (hp nS M) Q := by
  refine (eq_run 3 (q := (37, [.ref 205, .int x1, .int s0], [.int (-1), .int s0], hp nS M)) (by with_unfolding_all rfl)).trans ?_
  exact eq_cmp_ne (by with_unfolding_all rfl)
set_option maxRecDepth 20000 in
theorem b_203_40 {d nS : Nat} {x1 x2 : Int32} {M : am_M} {Q : Option Value → am_H → Prop} : am_Wp d 203 40 [.ref 205, .int x1, .int x2] [] (hp nS M) Q = Q (some (.int (-1))) (hp nS M) := by
  refine (eq_run 1 (q := (41, [.ref 205, .int x1, .int x2], [.int (-1)], hp nS M)) (by with_unfolding_all rfl)).trans ?_
  exact eq_retI2 (e := (.ireturn, 1, 0, 0, 0)) (t := .int) (by with_unfolding_all rfl) rfl (by with_unfolding_all rfl) rfl
set_option maxRecDepth 20000 in
theorem b_203_42 {d nS : Nat} {x1 x2 : Int32} {M : am_M} {Q : Option Value → am_H → Prop} (h1 : vp_in (8 + x1) 16) : am_Wp (d + 1) 203 42 [.ref 205, .int x1, .int x2] [] (hp nS M) Q = am_Wp d 198 0 [.ref 205, .int 59] [] (hp nS (am_up M 224 (8 + x1).toNatClampNeg (x2 + 1))) (fun v h1 => am_Wp (d + 1) 203 60 [.ref 205, .int x1, .int x2] (am_ans v []) h1 Q) := by
  refine (eq_run 8 (q := (53, [.ref 205, .int x1, .int x2], [.int (x2 + 1), .int (8 + x1), .ref 224], hp nS M)) (by with_unfolding_all rfl)).trans ?_
  refine (eq_ast (e := (.iastore, 1, 0, 0, 0)) (by with_unfolding_all rfl) rfl (n := 16) (by with_unfolding_all rfl) (by decide) h1).trans ?_
  refine (eq_run 2 (q := (57, [.ref 205, .int x1, .int x2], [.int 59, .ref 205], hp nS (am_up M 224 (8 + x1).toNatClampNeg (x2 + 1)))) (by with_unfolding_all rfl)).trans ?_
  exact eq_call2 (e := (.invokevirtual 272, 3, 0, 198, 304)) (as := [.ref 205, .int 59]) (r := []) (n := 2) (m := 2) (by with_unfolding_all rfl) rfl (by decide) (by with_unfolding_all rfl) (by decide) (by with_unfolding_all rfl) ⟨fun _ => am_rec_ok (c := 14) (by with_unfolding_all rfl) (by decide +kernel), fun z => by simp at z⟩
set_option maxRecDepth 20000 in
theorem b_203_60 {d nS : Nat} {x1 x2 s0 : Int32} {M : am_M} {Q : Option Value → am_H → Prop} : am_Wp d 203 60 [.ref 205, .int x1, .int x2] [.int s0] (hp nS M) Q = Q (some (.int s0)) (hp nS M) := by
  exact eq_retI2 (e := (.ireturn, 1, 0, 0, 0)) (t := .int) (by with_unfolding_all rfl) rfl (by with_unfolding_all rfl) rfl
-- readLaw()I
set_option maxRecDepth 20000 in
theorem b_204_0 {d nS : Nat} {M : am_M} {Q : Option Value → am_H → Prop} : am_Wp d 204 0 [.ref 205, .retAddr 0, .retAddr 0] [] (hp nS M) Q = am_Wp d 204 2 [.ref 205, .int 0, .retAddr 0] [] (hp nS M) Q := by
  exact eq_run 2 (q := (2, [.ref 205, .int 0, .retAddr 0], [], hp nS M)) (by with_unfolding_all rfl)
set_option maxRecDepth 20000 in
theorem b_204_2 {d nS : Nat} {x1 : Int32} {zx2 : Value} {M : am_M} {Q : Option Value → am_H → Prop} : am_Wp (d + 1) 204 2 [.ref 205, .int x1, zx2] [] (hp nS M) Q = am_Wp d 205 0 [.ref 205] [] (hp nS M) (fun v h1 => am_Wp (d + 1) 204 6 [.ref 205, .int x1, zx2] (am_ans v []) h1 Q) := by
  refine (eq_run 1 (q := (3, [.ref 205, .int x1, zx2], [.ref 205], hp nS M)) (by with_unfolding_all rfl)).trans ?_
  exact eq_call2 (e := (.invokevirtual 252, 3, 0, 205, 299)) (as := [.ref 205]) (r := []) (n := 1) (m := 1) (by with_unfolding_all rfl) rfl (by decide) (by with_unfolding_all rfl) (by decide) (by with_unfolding_all rfl) ⟨fun _ => am_rec_ok (c := 14) (by with_unfolding_all rfl) (by decide +kernel), fun z => by simp at z⟩
set_option maxRecDepth 20000 in
theorem b_204_6 {d nS : Nat} {x1 s0 : Int32} {zx2 : Value} {M : am_M} {Q : Option Value → am_H → Prop} : am_Wp d 204 6 [.ref 205, .int x1, zx2] [.int s0] (hp nS M) Q = if s0 = 0 then am_Wp d 204 128 [.ref 205, .int x1, zx2] [] (hp nS M) Q else am_Wp d 204 9 [.ref 205, .int x1, zx2] [] (hp nS M) Q := by
  exact eq_if_eq (by with_unfolding_all rfl)
set_option maxRecDepth 20000 in
theorem b_204_9 {d nS : Nat} {x1 : Int32} {zx2 : Value} {M : am_M} {Q : Option Value → am_H → Prop} : am_Wp d 204 9 [.ref 205, .int x1, zx2] [] (hp nS M) Q = if ¬ x1 = 16 then am_Wp d 204 21 [.ref 205, .int x1, zx2] [] (hp nS M) Q else am_Wp d 204 15 [.ref 205, .int x1, zx2] [] (hp nS M) Q := by
  refine (eq_run 2 (q := (12, [.ref 205, .int x1, zx2], [.int 16, .int x1], hp nS M)) (by with_unfolding_all rfl)).trans ?_
  exact eq_cmp_ne (by with_unfolding_all rfl)
set_option maxRecDepth 20000 in
theorem b_204_15 {d nS : Nat} {x1 : Int32} {zx2 : Value} {M : am_M} {Q : Option Value → am_H → Prop} : am_Wp (d + 1) 204 15 [.ref 205, .int x1, zx2] [] (hp nS M) Q = am_Wp d 193 0 [.ref 205, .int 3] [] (hp nS M) (fun v h1 => am_Wp (d + 1) 204 20 [.ref 205, .int x1, zx2] (am_ans v []) h1 Q) := by
  refine (eq_run 2 (q := (17, [.ref 205, .int x1, zx2], [.int 3, .ref 205], hp nS M)) (by with_unfolding_all rfl)).trans ?_
  exact eq_call2 (e := (.invokevirtual 211, 3, 0, 193, 288)) (as := [.ref 205, .int 3]) (r := []) (n := 2) (m := 2) (by with_unfolding_all rfl) rfl (by decide) (by with_unfolding_all rfl) (by decide) (by with_unfolding_all rfl) ⟨fun _ => am_rec_ok (c := 14) (by with_unfolding_all rfl) (by decide +kernel), fun z => by simp at z⟩
set_option maxRecDepth 20000 in
theorem b_204_20 {d nS : Nat} {x1 s0 : Int32} {zx2 : Value} {M : am_M} {Q : Option Value → am_H → Prop} : am_Wp d 204 20 [.ref 205, .int x1, zx2] [.int s0] (hp nS M) Q = Q (some (.int s0)) (hp nS M) := by
  exact eq_retI2 (e := (.ireturn, 1, 0, 0, 0)) (t := .int) (by with_unfolding_all rfl) rfl (by with_unfolding_all rfl) rfl
set_option maxRecDepth 20000 in
theorem b_204_21 {d nS : Nat} {x1 : Int32} {zx2 : Value} {M : am_M} {Q : Option Value → am_H → Prop} (h1 : vp_in (32 + x1) 48) : am_Wp (d + 1) 204 21 [.ref 205, .int x1, zx2] [] (hp nS M) Q = am_Wp d 185 0 [.ref 205, .retAddr 0] [] (hp nS (am_up M 215 (32 + x1).toNatClampNeg (M 205 19))) (fun v h1 => am_Wp (d + 1) 204 40 [.ref 205, .int x1, .int (32 + x1)] (am_ans v []) h1 Q) := by
  refine (eq_run 9 (q := (35, [.ref 205, .int x1, .int (32 + x1)], [.int (M 205 19), .int (32 + x1), .ref 215], hp nS M)) (by with_unfolding_all rfl)).trans ?_
  refine (eq_ast (e := (.iastore, 1, 0, 0, 0)) (by with_unfolding_all rfl) rfl (n := 48) (by with_unfolding_all rfl) (by decide) h1).trans ?_
  refine (eq_run 1 (q := (37, [.ref 205, .int x1, .int (32 + x1)], [.ref 205], hp nS (am_up M 215 (32 + x1).toNatClampNeg (M 205 19)))) (by with_unfolding_all rfl)).trans ?_
  exact eq_call2 (e := (.invokevirtual 218, 3, 0, 185, 290)) (as := [.ref 205]) (r := []) (n := 1) (m := 2) (by with_unfolding_all rfl) rfl (by decide) (by with_unfolding_all rfl) (by decide) (by with_unfolding_all rfl) ⟨fun _ => am_rec_ok (c := 14) (by with_unfolding_all rfl) (by decide +kernel), fun z => by simp at z⟩
set_option maxRecDepth 20000 in
theorem b_204_40 {d nS : Nat} {x1 x2 : Int32} {M : am_M} {Q : Option Value → am_H → Prop} (h1 : vp_in x2 48) : am_Wp (d + 1) 204 40 [.ref 205, .int x1, .int x2] [] (hp nS M) Q = am_Wp d 206 0 [.ref 205, .retAddr 0] [] (hp nS (am_up M 216 x2.toNatClampNeg (M 205 29))) (fun v h1 => am_Wp (d + 1) 204 54 [.ref 205, .int x1, .int x2] (am_ans v []) h1 Q) := by
  refine (eq_run 5 (q := (49, [.ref 205, .int x1, .int x2], [.int (M 205 29), .int x2, .ref 216], hp nS M)) (by with_unfolding_all rfl)).trans ?_
  refine (eq_ast (e := (.iastore, 1, 0, 0, 0)) (by with_unfolding_all rfl) rfl (n := 48) (by with_unfolding_all rfl) (by decide) h1).trans ?_
  refine (eq_run 1 (q := (51, [.ref 205, .int x1, .int x2], [.ref 205], hp nS (am_up M 216 x2.toNatClampNeg (M 205 29)))) (by with_unfolding_all rfl)).trans ?_
  exact eq_call2 (e := (.invokevirtual 231, 3, 0, 206, 294)) (as := [.ref 205]) (r := []) (n := 1) (m := 2) (by with_unfolding_all rfl) rfl (by decide) (by with_unfolding_all rfl) (by decide) (by with_unfolding_all rfl) ⟨fun _ => am_rec_ok (c := 14) (by with_unfolding_all rfl) (by decide +kernel), fun z => by simp at z⟩
set_option maxRecDepth 20000 in
theorem b_204_54 {d nS : Nat} {x1 x2 s0 : Int32} {M : am_M} {Q : Option Value → am_H → Prop} : am_Wp d 204 54 [.ref 205, .int x1, .int x2] [.int s0] (hp nS M) Q = if ¬ s0 = (-1) then am_Wp d 204 60 [.ref 205, .int x1, .int x2] [] (hp nS M) Q else am_Wp d 204 58 [.ref 205, .int x1, .int x2] [] (hp nS M) Q := by
  refine (eq_run 1 (q := (55, [.ref 205, .int x1, .int x2], [.int (-1), .int s0], hp nS M)) (by with_unfolding_all rfl)).trans ?_
  exact eq_cmp_ne (by with_unfolding_all rfl)
set_option maxRecDepth 20000 in
theorem b_204_58 {d nS : Nat} {x1 x2 : Int32} {M : am_M} {Q : Option Value → am_H → Prop} : am_Wp d 204 58 [.ref 205, .int x1, .int x2] [] (hp nS M) Q = Q (some (.int (-1))) (hp nS M) := by
  refine (eq_run 1 (q := (59, [.ref 205, .int x1, .int x2], [.int (-1)], hp nS M)) (by with_unfolding_all rfl)).trans ?_
  exact eq_retI2 (e := (.ireturn, 1, 0, 0, 0)) (t := .int) (by with_unfolding_all rfl) rfl (by with_unfolding_all rfl) rfl
set_option maxRecDepth 20000 in
theorem b_204_60 {d nS : Nat} {x1 x2 : Int32} {M : am_M} {Q : Option Value → am_H → Prop} (h1 : vp_in x2 48) : am_Wp (d + 1) 204 60 [.ref 205, .int x1, .int x2] [] (hp nS M) Q = am_Wp d 192 0 [.ref 205, .int 3] [] (hp nS (am_up M 217 x2.toNatClampNeg (M 205 29))) (fun v h1 => am_Wp (d + 1) 204 75 [.ref 205, .int x1, .int x2] (am_ans v []) h1 Q) := by
  refine (eq_run 5 (q := (69, [.ref 205, .int x1, .int x2], [.int (M 205 29), .int x2, .ref 217], hp nS M)) (by with_unfolding_all rfl)).trans ?_
  refine (eq_ast (e := (.iastore, 1, 0, 0, 0)) (by with_unfolding_all rfl) rfl (n := 48) (by with_unfolding_all rfl) (by decide) h1).trans ?_
  refine (eq_run 2 (q := (72, [.ref 205, .int x1, .int x2], [.int 3, .ref 205], hp nS (am_up M 217 x2.toNatClampNeg (M 205 29)))) (by with_unfolding_all rfl)).trans ?_
  exact eq_call2 (e := (.invokevirtual 240, 3, 0, 192, 295)) (as := [.ref 205, .int 3]) (r := []) (n := 2) (m := 2) (by with_unfolding_all rfl) rfl (by decide) (by with_unfolding_all rfl) (by decide) (by with_unfolding_all rfl) ⟨fun _ => am_rec_ok (c := 14) (by with_unfolding_all rfl) (by decide +kernel), fun z => by simp at z⟩
set_option maxRecDepth 20000 in
theorem b_204_75 {d nS : Nat} {x1 x2 s0 : Int32} {M : am_M} {Q : Option Value → am_H → Prop} : am_Wp d 204 75 [.ref 205, .int x1, .int x2] [.int s0] (hp nS M) Q = if s0 = 0 then am_Wp d 204 92 [.ref 205, .int x1, .int x2] [] (hp nS M) Q else am_Wp d 204 78 [.ref 205, .int x1, .int x2] [] (hp nS M) Q := by
  exact eq_if_eq (by with_unfolding_all rfl)
set_option maxRecDepth 20000 in
theorem b_204_78 {d nS : Nat} {x1 x2 : Int32} {M : am_M} {Q : Option Value → am_H → Prop} : am_Wp (d + 1) 204 78 [.ref 205, .int x1, .int x2] [] (hp nS M) Q = am_Wp d 185 0 [.ref 205, .retAddr 0] [] (hp nS M) (fun v h1 => am_Wp (d + 1) 204 82 [.ref 205, .int x1, .int x2] (am_ans v []) h1 Q) := by
  refine (eq_run 1 (q := (79, [.ref 205, .int x1, .int x2], [.ref 205], hp nS M)) (by with_unfolding_all rfl)).trans ?_
  exact eq_call2 (e := (.invokevirtual 218, 3, 0, 185, 290)) (as := [.ref 205]) (r := []) (n := 1) (m := 2) (by with_unfolding_all rfl) rfl (by decide) (by with_unfolding_all rfl) (by decide) (by with_unfolding_all rfl) ⟨fun _ => am_rec_ok (c := 14) (by with_unfolding_all rfl) (by decide +kernel), fun z => by simp at z⟩
set_option maxRecDepth 20000 in
theorem b_204_82 {d nS : Nat} {x1 x2 : Int32} {M : am_M} {Q : Option Value → am_H → Prop} : am_Wp (d + 1) 204 82 [.ref 205, .int x1, .int x2] [] (hp nS M) Q = am_Wp d 211 0 [.ref 205, .retAddr 0, .retAddr 0, .retAddr 0] [] (hp nS M) (fun v h1 => am_Wp (d + 1) 204 86 [.ref 205, .int x1, .int x2] (am_ans v []) h1 Q) := by
  refine (eq_run 1 (q := (83, [.ref 205, .int x1, .int x2], [.ref 205], hp nS M)) (by with_unfolding_all rfl)).trans ?_
  exact eq_call2 (e := (.invokevirtual 256, 3, 0, 211, 300)) (as := [.ref 205]) (r := []) (n := 1) (m := 4) (by with_unfolding_all rfl) rfl (by decide) (by with_unfolding_all rfl) (by decide) (by with_unfolding_all rfl) ⟨fun _ => am_rec_ok (c := 14) (by with_unfolding_all rfl) (by decide +kernel), fun z => by simp at z⟩
set_option maxRecDepth 20000 in
theorem b_204_86 {d nS : Nat} {x1 x2 s0 : Int32} {M : am_M} {Q : Option Value → am_H → Prop} : am_Wp d 204 86 [.ref 205, .int x1, .int x2] [.int s0] (hp nS M) Q = if ¬ s0 = (-1) then am_Wp d 204 92 [.ref 205, .int x1, .int x2] [] (hp nS M) Q else am_Wp d 204 90 [.ref 205, .int x1, .int x2] [] (hp nS M) Q := by
  refine (eq_run 1 (q := (87, [.ref 205, .int x1, .int x2], [.int (-1), .int s0], hp nS M)) (by with_unfolding_all rfl)).trans ?_
  exact eq_cmp_ne (by with_unfolding_all rfl)
set_option maxRecDepth 20000 in
theorem b_204_90 {d nS : Nat} {x1 x2 : Int32} {M : am_M} {Q : Option Value → am_H → Prop} : am_Wp d 204 90 [.ref 205, .int x1, .int x2] [] (hp nS M) Q = Q (some (.int (-1))) (hp nS M) := by
  refine (eq_run 1 (q := (91, [.ref 205, .int x1, .int x2], [.int (-1)], hp nS M)) (by with_unfolding_all rfl)).trans ?_
  exact eq_retI2 (e := (.ireturn, 1, 0, 0, 0)) (t := .int) (by with_unfolding_all rfl) rfl (by with_unfolding_all rfl) rfl
set_option maxRecDepth 20000 in
theorem b_204_92 {d nS : Nat} {x1 x2 : Int32} {M : am_M} {Q : Option Value → am_H → Prop} (h1 : vp_in x2 48) : am_Wp (d + 1) 204 92 [.ref 205, .int x1, .int x2] [] (hp nS M) Q = am_Wp d 199 0 [.ref 205, .int 59] [] (hp nS (am_up M 218 x2.toNatClampNeg (M 205 29))) (fun v h1 => am_Wp (d + 1) 204 108 [.ref 205, .int x1, .int x2] (am_ans v []) h1 Q) := by
  refine (eq_run 5 (q := (101, [.ref 205, .int x1, .int x2], [.int (M 205 29), .int x2, .ref 218], hp nS M)) (by with_unfolding_all rfl)).trans ?_
  refine (eq_ast (e := (.iastore, 1, 0, 0, 0)) (by with_unfolding_all rfl) rfl (n := 48) (by with_unfolding_all rfl) (by decide) h1).trans ?_
  refine (eq_run 2 (q := (105, [.ref 205, .int x1, .int x2], [.int 59, .ref 205], hp nS (am_up M 218 x2.toNatClampNeg (M 205 29)))) (by with_unfolding_all rfl)).trans ?_
  exact eq_call2 (e := (.invokevirtual 225, 3, 0, 199, 292)) (as := [.ref 205, .int 59]) (r := []) (n := 2) (m := 2) (by with_unfolding_all rfl) rfl (by decide) (by with_unfolding_all rfl) (by decide) (by with_unfolding_all rfl) ⟨fun _ => am_rec_ok (c := 14) (by with_unfolding_all rfl) (by decide +kernel), fun z => by simp at z⟩
set_option maxRecDepth 20000 in
theorem b_204_108 {d nS : Nat} {x1 x2 s0 : Int32} {M : am_M} {Q : Option Value → am_H → Prop} : am_Wp d 204 108 [.ref 205, .int x1, .int x2] [.int s0] (hp nS M) Q = if ¬ s0 = 0 then am_Wp d 204 117 [.ref 205, .int x1, .int x2] [] (hp nS M) Q else am_Wp d 204 111 [.ref 205, .int x1, .int x2] [] (hp nS M) Q := by
  exact eq_if_ne (by with_unfolding_all rfl)
set_option maxRecDepth 20000 in
theorem b_204_111 {d nS : Nat} {x1 x2 : Int32} {M : am_M} {Q : Option Value → am_H → Prop} : am_Wp (d + 1) 204 111 [.ref 205, .int x1, .int x2] [] (hp nS M) Q = am_Wp d 193 0 [.ref 205, .int 1] [] (hp nS M) (fun v h1 => am_Wp (d + 1) 204 116 [.ref 205, .int x1, .int x2] (am_ans v []) h1 Q) := by
  refine (eq_run 2 (q := (113, [.ref 205, .int x1, .int x2], [.int 1, .ref 205], hp nS M)) (by with_unfolding_all rfl)).trans ?_
  exact eq_call2 (e := (.invokevirtual 211, 3, 0, 193, 288)) (as := [.ref 205, .int 1]) (r := []) (n := 2) (m := 2) (by with_unfolding_all rfl) rfl (by decide) (by with_unfolding_all rfl) (by decide) (by with_unfolding_all rfl) ⟨fun _ => am_rec_ok (c := 14) (by with_unfolding_all rfl) (by decide +kernel), fun z => by simp at z⟩
set_option maxRecDepth 20000 in
theorem b_204_116 {d nS : Nat} {x1 x2 s0 : Int32} {M : am_M} {Q : Option Value → am_H → Prop} : am_Wp d 204 116 [.ref 205, .int x1, .int x2] [.int s0] (hp nS M) Q = Q (some (.int s0)) (hp nS M) := by
  exact eq_retI2 (e := (.ireturn, 1, 0, 0, 0)) (t := .int) (by with_unfolding_all rfl) rfl (by with_unfolding_all rfl) rfl
set_option maxRecDepth 20000 in
theorem b_204_117 {d nS : Nat} {x1 x2 : Int32} {M : am_M} {Q : Option Value → am_H → Prop} : am_Wp (d + 1) 204 117 [.ref 205, .int x1, .int x2] [] (hp nS M) Q = am_Wp d 185 0 [.ref 205, .retAddr 0] [] (hp nS M) (fun v h1 => am_Wp (d + 1) 204 121 [.ref 205, .int x1, .int x2] (am_ans v []) h1 Q) := by
  refine (eq_run 1 (q := (118, [.ref 205, .int x1, .int x2], [.ref 205], hp nS M)) (by with_unfolding_all rfl)).trans ?_
  exact eq_call2 (e := (.invokevirtual 218, 3, 0, 185, 290)) (as := [.ref 205]) (r := []) (n := 1) (m := 2) (by with_unfolding_all rfl) rfl (by decide) (by with_unfolding_all rfl) (by decide) (by with_unfolding_all rfl) ⟨fun _ => am_rec_ok (c := 14) (by with_unfolding_all rfl) (by decide +kernel), fun z => by simp at z⟩
set_option maxRecDepth 20000 in
theorem b_204_121 {d nS : Nat} {x1 x2 : Int32} {M : am_M} {Q : Option Value → am_H → Prop} : am_Wp d 204 121 [.ref 205, .int x1, .int x2] [] (hp nS M) Q = am_Wp d 204 2 [.ref 205, .int (x1 + 1), .int x2] [] (hp nS M) Q := by
  exact eq_run 5 (q := (2, [.ref 205, .int (x1 + 1), .int x2], [], hp nS M)) (by with_unfolding_all rfl)
set_option maxRecDepth 20000 in
theorem b_204_128 {d nS : Nat} {x1 : Int32} {zx2 : Value} {M : am_M} {Q : Option Value → am_H → Prop} : am_Wp d 204 128 [.ref 205, .int x1, zx2] [] (hp nS M) Q = if ¬ (M 205 18) = 0 then am_Wp d 204 139 [.ref 205, .int x1, zx2] [] (hp nS M) Q else am_Wp d 204 135 [.ref 205, .int x1, zx2] [] (hp nS M) Q := by
  refine (eq_run 2 (q := (132, [.ref 205, .int x1, zx2], [.int (M 205 18)], hp nS M)) (by with_unfolding_all rfl)).trans ?_
  exact eq_if_ne (by with_unfolding_all rfl)
set_option maxRecDepth 20000 in
theorem b_204_135 {d nS : Nat} {x1 : Int32} {zx2 : Value} {M : am_M} {Q : Option Value → am_H → Prop} : am_Wp d 204 135 [.ref 205, .int x1, zx2] [] (hp nS M) Q = am_Wp d 204 144 [.ref 205, .int x1, zx2] [.int x1] (hp nS M) Q := by
  exact eq_run 2 (q := (144, [.ref 205, .int x1, zx2], [.int x1], hp nS M)) (by with_unfolding_all rfl)
set_option maxRecDepth 20000 in
theorem b_204_139 {d nS : Nat} {x1 : Int32} {zx2 : Value} {M : am_M} {Q : Option Value → am_H → Prop} : am_Wp (d + 1) 204 139 [.ref 205, .int x1, zx2] [] (hp nS M) Q = am_Wp d 193 0 [.ref 205, .int 1] [] (hp nS M) (fun v h1 => am_Wp (d + 1) 204 144 [.ref 205, .int x1, zx2] (am_ans v []) h1 Q) := by
  refine (eq_run 2 (q := (141, [.ref 205, .int x1, zx2], [.int 1, .ref 205], hp nS M)) (by with_unfolding_all rfl)).trans ?_
  exact eq_call2 (e := (.invokevirtual 211, 3, 0, 193, 288)) (as := [.ref 205, .int 1]) (r := []) (n := 2) (m := 2) (by with_unfolding_all rfl) rfl (by decide) (by with_unfolding_all rfl) (by decide) (by with_unfolding_all rfl) ⟨fun _ => am_rec_ok (c := 14) (by with_unfolding_all rfl) (by decide +kernel), fun z => by simp at z⟩
set_option maxRecDepth 20000 in
theorem b_204_144 {d nS : Nat} {x1 s0 : Int32} {zx2 : Value} {M : am_M} {Q : Option Value → am_H → Prop} : am_Wp d 204 144 [.ref 205, .int x1, zx2] [.int s0] (hp nS M) Q = Q (some (.int s0)) (hp nS M) := by
  exact eq_retI2 (e := (.ireturn, 1, 0, 0, 0)) (t := .int) (by with_unfolding_all rfl) rfl (by with_unfolding_all rfl) rfl
-- isLineWord()Z
set_option maxRecDepth 20000 in
theorem b_205_0 {d nS : Nat} {M : am_M} {Q : Option Value → am_H → Prop} : am_Wp d 205 0 [.ref 205] [] (hp nS M) Q = if ¬ (M 205 18) = 2 then am_Wp d 205 25 [.ref 205] [] (hp nS M) Q else am_Wp d 205 8 [.ref 205] [] (hp nS M) Q := by
  refine (eq_run 3 (q := (5, [.ref 205], [.int 2, .int (M 205 18)], hp nS M)) (by with_unfolding_all rfl)).trans ?_
  exact eq_cmp_ne (by with_unfolding_all rfl)
set_option maxRecDepth 20000 in
theorem b_205_8 {d nS : Nat} {M : am_M} {Q : Option Value → am_H → Prop} : am_Wp (d + 1) 205 8 [.ref 205] [] (hp nS M) Q = am_Wp d 171 0 [.ref 205, .int (M 205 19), .int 0, .int 2] [] (hp nS M) (fun v h1 => am_Wp (d + 1) 205 18 [.ref 205] (am_ans v []) h1 Q) := by
  refine (eq_run 5 (q := (15, [.ref 205], [.int 2, .int 0, .int (M 205 19), .ref 205], hp nS M)) (by with_unfolding_all rfl)).trans ?_
  exact eq_call2 (e := (.invokevirtual 144, 3, 0, 171, 275)) (as := [.ref 205, .int (M 205 19), .int 0, .int 2]) (r := []) (n := 4) (m := 4) (by with_unfolding_all rfl) rfl (by decide) (by with_unfolding_all rfl) (by decide) (by with_unfolding_all rfl) ⟨fun _ => am_rec_ok (c := 14) (by with_unfolding_all rfl) (by decide +kernel), fun z => by simp at z⟩
set_option maxRecDepth 20000 in
theorem b_205_18 {d nS : Nat} {s0 : Int32} {M : am_M} {Q : Option Value → am_H → Prop} : am_Wp d 205 18 [.ref 205] [.int s0] (hp nS M) Q = if s0 = 0 then am_Wp d 205 25 [.ref 205] [] (hp nS M) Q else am_Wp d 205 21 [.ref 205] [] (hp nS M) Q := by
  exact eq_if_eq (by with_unfolding_all rfl)
set_option maxRecDepth 20000 in
theorem b_205_21 {d nS : Nat} {M : am_M} {Q : Option Value → am_H → Prop} : am_Wp d 205 21 [.ref 205] [] (hp nS M) Q = am_Wp d 205 26 [.ref 205] [.int 1] (hp nS M) Q := by
  exact eq_run 2 (q := (26, [.ref 205], [.int 1], hp nS M)) (by with_unfolding_all rfl)
set_option maxRecDepth 20000 in
theorem b_205_25 {d nS : Nat} {M : am_M} {Q : Option Value → am_H → Prop} : am_Wp d 205 25 [.ref 205] [] (hp nS M) Q = am_Wp d 205 26 [.ref 205] [.int 0] (hp nS M) Q := by
  exact eq_run 1 (q := (26, [.ref 205], [.int 0], hp nS M)) (by with_unfolding_all rfl)
set_option maxRecDepth 20000 in
theorem b_205_26 {d nS : Nat} {s0 : Int32} {M : am_M} {Q : Option Value → am_H → Prop} (h1 : am_rok .boolean s0 = true) : am_Wp d 205 26 [.ref 205] [.int s0] (hp nS M) Q = Q (some (.int s0)) (hp nS M) := by
  exact eq_retI2 (e := (.ireturn, 1, 0, 0, 0)) (t := .boolean) (by with_unfolding_all rfl) rfl (by with_unfolding_all rfl) h1
-- readSum()I
set_option maxRecDepth 20000 in
theorem b_206_0 {d nS : Nat} {M : am_M} {Q : Option Value → am_H → Prop} : am_Wp (d + 1) 206 0 [.ref 205, .retAddr 0] [] (hp nS M) Q = am_Wp d 207 0 [.ref 205, .retAddr 0] [] (hp nS M) (fun v h1 => am_Wp (d + 1) 206 4 [.ref 205, .retAddr 0] (am_ans v []) h1 Q) := by
  refine (eq_run 1 (q := (1, [.ref 205, .retAddr 0], [.ref 205], hp nS M)) (by with_unfolding_all rfl)).trans ?_
  exact eq_call2 (e := (.invokevirtual 228, 3, 0, 207, 293)) (as := [.ref 205]) (r := []) (n := 1) (m := 2) (by with_unfolding_all rfl) rfl (by decide) (by with_unfolding_all rfl) (by decide) (by with_unfolding_all rfl) ⟨fun _ => am_rec_ok (c := 14) (by with_unfolding_all rfl) (by decide +kernel), fun z => by simp at z⟩
set_option maxRecDepth 20000 in
theorem b_206_4 {d nS : Nat} {s0 : Int32} {M : am_M} {Q : Option Value → am_H → Prop} : am_Wp d 206 4 [.ref 205, .retAddr 0] [.int s0] (hp nS M) Q = if ¬ s0 = (-1) then am_Wp d 206 10 [.ref 205, .retAddr 0] [] (hp nS M) Q else am_Wp d 206 8 [.ref 205, .retAddr 0] [] (hp nS M) Q := by
  refine (eq_run 1 (q := (5, [.ref 205, .retAddr 0], [.int (-1), .int s0], hp nS M)) (by with_unfolding_all rfl)).trans ?_
  exact eq_cmp_ne (by with_unfolding_all rfl)
set_option maxRecDepth 20000 in
theorem b_206_8 {d nS : Nat} {M : am_M} {Q : Option Value → am_H → Prop} : am_Wp d 206 8 [.ref 205, .retAddr 0] [] (hp nS M) Q = Q (some (.int (-1))) (hp nS M) := by
  refine (eq_run 1 (q := (9, [.ref 205, .retAddr 0], [.int (-1)], hp nS M)) (by with_unfolding_all rfl)).trans ?_
  exact eq_retI2 (e := (.ireturn, 1, 0, 0, 0)) (t := .int) (by with_unfolding_all rfl) rfl (by with_unfolding_all rfl) rfl
set_option maxRecDepth 20000 in
theorem b_206_10 {d nS : Nat} {zx1 : Value} {M : am_M} {Q : Option Value → am_H → Prop} : am_Wp (d + 1) 206 10 [.ref 205, zx1] [] (hp nS M) Q = am_Wp d 199 0 [.ref 205, .int 43] [] (hp nS M) (fun v h1 => am_Wp (d + 1) 206 16 [.ref 205, zx1] (am_ans v []) h1 Q) := by
  refine (eq_run 2 (q := (13, [.ref 205, zx1], [.int 43, .ref 205], hp nS M)) (by with_unfolding_all rfl)).trans ?_
  exact eq_call2 (e := (.invokevirtual 225, 3, 0, 199, 292)) (as := [.ref 205, .int 43]) (r := []) (n := 2) (m := 2) (by with_unfolding_all rfl) rfl (by decide) (by with_unfolding_all rfl) (by decide) (by with_unfolding_all rfl) ⟨fun _ => am_rec_ok (c := 14) (by with_unfolding_all rfl) (by decide +kernel), fun z => by simp at z⟩
set_option maxRecDepth 20000 in
theorem b_206_16 {d nS : Nat} {s0 : Int32} {zx1 : Value} {M : am_M} {Q : Option Value → am_H → Prop} : am_Wp d 206 16 [.ref 205, zx1] [.int s0] (hp nS M) Q = if ¬ s0 = 0 then am_Wp d 206 28 [.ref 205, zx1] [] (hp nS M) Q else am_Wp d 206 19 [.ref 205, zx1] [] (hp nS M) Q := by
  exact eq_if_ne (by with_unfolding_all rfl)
set_option maxRecDepth 20000 in
theorem b_206_19 {d nS : Nat} {zx1 : Value} {M : am_M} {Q : Option Value → am_H → Prop} : am_Wp (d + 1) 206 19 [.ref 205, zx1] [] (hp nS M) Q = am_Wp d 199 0 [.ref 205, .int 45] [] (hp nS M) (fun v h1 => am_Wp (d + 1) 206 25 [.ref 205, zx1] (am_ans v []) h1 Q) := by
  refine (eq_run 2 (q := (22, [.ref 205, zx1], [.int 45, .ref 205], hp nS M)) (by with_unfolding_all rfl)).trans ?_
  exact eq_call2 (e := (.invokevirtual 225, 3, 0, 199, 292)) (as := [.ref 205, .int 45]) (r := []) (n := 2) (m := 2) (by with_unfolding_all rfl) rfl (by decide) (by with_unfolding_all rfl) (by decide) (by with_unfolding_all rfl) ⟨fun _ => am_rec_ok (c := 14) (by with_unfolding_all rfl) (by decide +kernel), fun z => by simp at z⟩
set_option maxRecDepth 20000 in
theorem b_206_25 {d nS : Nat} {s0 : Int32} {zx1 : Value} {M : am_M} {Q : Option Value → am_H → Prop} : am_Wp d 206 25 [.ref 205, zx1] [.int s0] (hp nS M) Q = if s0 = 0 then am_Wp d 206 66 [.ref 205, zx1] [] (hp nS M) Q else am_Wp d 206 28 [.ref 205, zx1] [] (hp nS M) Q := by
  exact eq_if_eq (by with_unfolding_all rfl)
set_option maxRecDepth 20000 in
theorem b_206_28 {d nS : Nat} {zx1 : Value} {M : am_M} {Q : Option Value → am_H → Prop} : am_Wp d 206 28 [.ref 205, zx1] [] (hp nS M) Q = if ¬ (M 205 19) = 43 then am_Wp d 206 41 [.ref 205, zx1] [] (hp nS M) Q else am_Wp d 206 37 [.ref 205, zx1] [] (hp nS M) Q := by
  refine (eq_run 3 (q := (34, [.ref 205, zx1], [.int 43, .int (M 205 19)], hp nS M)) (by with_unfolding_all rfl)).trans ?_
  exact eq_cmp_ne (by with_unfolding_all rfl)
set_option maxRecDepth 20000 in
theorem b_206_37 {d nS : Nat} {zx1 : Value} {M : am_M} {Q : Option Value → am_H → Prop} : am_Wp d 206 37 [.ref 205, zx1] [] (hp nS M) Q = am_Wp d 206 42 [.ref 205, zx1] [.int 2] (hp nS M) Q := by
  exact eq_run 2 (q := (42, [.ref 205, zx1], [.int 2], hp nS M)) (by with_unfolding_all rfl)
set_option maxRecDepth 20000 in
theorem b_206_41 {d nS : Nat} {zx1 : Value} {M : am_M} {Q : Option Value → am_H → Prop} : am_Wp d 206 41 [.ref 205, zx1] [] (hp nS M) Q = am_Wp d 206 42 [.ref 205, zx1] [.int 3] (hp nS M) Q := by
  exact eq_run 1 (q := (42, [.ref 205, zx1], [.int 3], hp nS M)) (by with_unfolding_all rfl)
set_option maxRecDepth 20000 in
theorem b_206_42 {d nS : Nat} {s0 : Int32} {zx1 : Value} {M : am_M} {Q : Option Value → am_H → Prop} : am_Wp (d + 1) 206 42 [.ref 205, zx1] [.int s0] (hp nS M) Q = am_Wp d 185 0 [.ref 205, .retAddr 0] [] (hp nS M) (fun v h1 => am_Wp (d + 1) 206 47 [.ref 205, .int s0] (am_ans v []) h1 Q) := by
  refine (eq_run 2 (q := (44, [.ref 205, .int s0], [.ref 205], hp nS M)) (by with_unfolding_all rfl)).trans ?_
  exact eq_call2 (e := (.invokevirtual 218, 3, 0, 185, 290)) (as := [.ref 205]) (r := []) (n := 1) (m := 2) (by with_unfolding_all rfl) rfl (by decide) (by with_unfolding_all rfl) (by decide) (by with_unfolding_all rfl) ⟨fun _ => am_rec_ok (c := 14) (by with_unfolding_all rfl) (by decide +kernel), fun z => by simp at z⟩
set_option maxRecDepth 20000 in
theorem b_206_47 {d nS : Nat} {x1 : Int32} {M : am_M} {Q : Option Value → am_H → Prop} : am_Wp (d + 1) 206 47 [.ref 205, .int x1] [] (hp nS M) Q = am_Wp d 207 0 [.ref 205, .retAddr 0] [] (hp nS M) (fun v h1 => am_Wp (d + 1) 206 51 [.ref 205, .int x1] (am_ans v []) h1 Q) := by
  refine (eq_run 1 (q := (48, [.ref 205, .int x1], [.ref 205], hp nS M)) (by with_unfolding_all rfl)).trans ?_
  exact eq_call2 (e := (.invokevirtual 228, 3, 0, 207, 293)) (as := [.ref 205]) (r := []) (n := 1) (m := 2) (by with_unfolding_all rfl) rfl (by decide) (by with_unfolding_all rfl) (by decide) (by with_unfolding_all rfl) ⟨fun _ => am_rec_ok (c := 14) (by with_unfolding_all rfl) (by decide +kernel), fun z => by simp at z⟩
set_option maxRecDepth 20000 in
theorem b_206_51 {d nS : Nat} {x1 s0 : Int32} {M : am_M} {Q : Option Value → am_H → Prop} : am_Wp d 206 51 [.ref 205, .int x1] [.int s0] (hp nS M) Q = if ¬ s0 = (-1) then am_Wp d 206 57 [.ref 205, .int x1] [] (hp nS M) Q else am_Wp d 206 55 [.ref 205, .int x1] [] (hp nS M) Q := by
  refine (eq_run 1 (q := (52, [.ref 205, .int x1], [.int (-1), .int s0], hp nS M)) (by with_unfolding_all rfl)).trans ?_
  exact eq_cmp_ne (by with_unfolding_all rfl)
set_option maxRecDepth 20000 in
theorem b_206_55 {d nS : Nat} {x1 : Int32} {M : am_M} {Q : Option Value → am_H → Prop} : am_Wp d 206 55 [.ref 205, .int x1] [] (hp nS M) Q = Q (some (.int (-1))) (hp nS M) := by
  refine (eq_run 1 (q := (56, [.ref 205, .int x1], [.int (-1)], hp nS M)) (by with_unfolding_all rfl)).trans ?_
  exact eq_retI2 (e := (.ireturn, 1, 0, 0, 0)) (t := .int) (by with_unfolding_all rfl) rfl (by with_unfolding_all rfl) rfl
set_option maxRecDepth 20000 in
theorem b_206_57 {d nS : Nat} {x1 : Int32} {M : am_M} {Q : Option Value → am_H → Prop} : am_Wp (d + 1) 206 57 [.ref 205, .int x1] [] (hp nS M) Q = am_Wp d 210 0 [.ref 205, .int x1, .int 0] [] (hp nS M) (fun v h1 => am_Wp (d + 1) 206 63 [.ref 205, .int x1] (am_ans v []) h1 Q) := by
  refine (eq_run 3 (q := (60, [.ref 205, .int x1], [.int 0, .int x1, .ref 205], hp nS M)) (by with_unfolding_all rfl)).trans ?_
  exact eq_call2 (e := (.invokevirtual 214, 3, 0, 210, 289)) (as := [.ref 205, .int x1, .int 0]) (r := []) (n := 3) (m := 3) (by with_unfolding_all rfl) rfl (by decide) (by with_unfolding_all rfl) (by decide) (by with_unfolding_all rfl) ⟨fun _ => am_rec_ok (c := 14) (by with_unfolding_all rfl) (by decide +kernel), fun z => by simp at z⟩
set_option maxRecDepth 20000 in
theorem b_206_63 {d nS : Nat} {x1 : Int32} {M : am_M} {Q : Option Value → am_H → Prop} : am_Wp d 206 63 [.ref 205, .int x1] [] (hp nS M) Q = am_Wp d 206 10 [.ref 205, .int x1] [] (hp nS M) Q := by
  exact eq_run 1 (q := (10, [.ref 205, .int x1], [], hp nS M)) (by with_unfolding_all rfl)
set_option maxRecDepth 20000 in
theorem b_206_66 {d nS : Nat} {zx1 : Value} {M : am_M} {Q : Option Value → am_H → Prop} : am_Wp d 206 66 [.ref 205, zx1] [] (hp nS M) Q = Q (some (.int 0)) (hp nS M) := by
  refine (eq_run 1 (q := (67, [.ref 205, zx1], [.int 0], hp nS M)) (by with_unfolding_all rfl)).trans ?_
  exact eq_retI2 (e := (.ireturn, 1, 0, 0, 0)) (t := .int) (by with_unfolding_all rfl) rfl (by with_unfolding_all rfl) rfl
-- readProduct()I
set_option maxRecDepth 20000 in
theorem b_207_0 {d nS : Nat} {M : am_M} {Q : Option Value → am_H → Prop} : am_Wp (d + 1) 207 0 [.ref 205, .retAddr 0] [] (hp nS M) Q = am_Wp d 208 0 [.ref 205, .retAddr 0] [] (hp nS M) (fun v h1 => am_Wp (d + 1) 207 4 [.ref 205, .retAddr 0] (am_ans v []) h1 Q) := by
  refine (eq_run 1 (q := (1, [.ref 205, .retAddr 0], [.ref 205], hp nS M)) (by with_unfolding_all rfl)).trans ?_
  exact eq_call2 (e := (.invokevirtual 221, 3, 0, 208, 291)) (as := [.ref 205]) (r := []) (n := 1) (m := 2) (by with_unfolding_all rfl) rfl (by decide) (by with_unfolding_all rfl) (by decide) (by with_unfolding_all rfl) ⟨fun _ => am_rec_ok (c := 14) (by with_unfolding_all rfl) (by decide +kernel), fun z => by simp at z⟩
set_option maxRecDepth 20000 in
theorem b_207_4 {d nS : Nat} {s0 : Int32} {M : am_M} {Q : Option Value → am_H → Prop} : am_Wp d 207 4 [.ref 205, .retAddr 0] [.int s0] (hp nS M) Q = if ¬ s0 = (-1) then am_Wp d 207 10 [.ref 205, .retAddr 0] [] (hp nS M) Q else am_Wp d 207 8 [.ref 205, .retAddr 0] [] (hp nS M) Q := by
  refine (eq_run 1 (q := (5, [.ref 205, .retAddr 0], [.int (-1), .int s0], hp nS M)) (by with_unfolding_all rfl)).trans ?_
  exact eq_cmp_ne (by with_unfolding_all rfl)
set_option maxRecDepth 20000 in
theorem b_207_8 {d nS : Nat} {M : am_M} {Q : Option Value → am_H → Prop} : am_Wp d 207 8 [.ref 205, .retAddr 0] [] (hp nS M) Q = Q (some (.int (-1))) (hp nS M) := by
  refine (eq_run 1 (q := (9, [.ref 205, .retAddr 0], [.int (-1)], hp nS M)) (by with_unfolding_all rfl)).trans ?_
  exact eq_retI2 (e := (.ireturn, 1, 0, 0, 0)) (t := .int) (by with_unfolding_all rfl) rfl (by with_unfolding_all rfl) rfl
set_option maxRecDepth 20000 in
theorem b_207_10 {d nS : Nat} {zx1 : Value} {M : am_M} {Q : Option Value → am_H → Prop} : am_Wp (d + 1) 207 10 [.ref 205, zx1] [] (hp nS M) Q = am_Wp d 199 0 [.ref 205, .int 42] [] (hp nS M) (fun v h1 => am_Wp (d + 1) 207 16 [.ref 205, zx1] (am_ans v []) h1 Q) := by
  refine (eq_run 2 (q := (13, [.ref 205, zx1], [.int 42, .ref 205], hp nS M)) (by with_unfolding_all rfl)).trans ?_
  exact eq_call2 (e := (.invokevirtual 225, 3, 0, 199, 292)) (as := [.ref 205, .int 42]) (r := []) (n := 2) (m := 2) (by with_unfolding_all rfl) rfl (by decide) (by with_unfolding_all rfl) (by decide) (by with_unfolding_all rfl) ⟨fun _ => am_rec_ok (c := 14) (by with_unfolding_all rfl) (by decide +kernel), fun z => by simp at z⟩
set_option maxRecDepth 20000 in
theorem b_207_16 {d nS : Nat} {s0 : Int32} {zx1 : Value} {M : am_M} {Q : Option Value → am_H → Prop} : am_Wp d 207 16 [.ref 205, zx1] [.int s0] (hp nS M) Q = if ¬ s0 = 0 then am_Wp d 207 28 [.ref 205, zx1] [] (hp nS M) Q else am_Wp d 207 19 [.ref 205, zx1] [] (hp nS M) Q := by
  exact eq_if_ne (by with_unfolding_all rfl)
set_option maxRecDepth 20000 in
theorem b_207_19 {d nS : Nat} {zx1 : Value} {M : am_M} {Q : Option Value → am_H → Prop} : am_Wp (d + 1) 207 19 [.ref 205, zx1] [] (hp nS M) Q = am_Wp d 199 0 [.ref 205, .int 47] [] (hp nS M) (fun v h1 => am_Wp (d + 1) 207 25 [.ref 205, zx1] (am_ans v []) h1 Q) := by
  refine (eq_run 2 (q := (22, [.ref 205, zx1], [.int 47, .ref 205], hp nS M)) (by with_unfolding_all rfl)).trans ?_
  exact eq_call2 (e := (.invokevirtual 225, 3, 0, 199, 292)) (as := [.ref 205, .int 47]) (r := []) (n := 2) (m := 2) (by with_unfolding_all rfl) rfl (by decide) (by with_unfolding_all rfl) (by decide) (by with_unfolding_all rfl) ⟨fun _ => am_rec_ok (c := 14) (by with_unfolding_all rfl) (by decide +kernel), fun z => by simp at z⟩
set_option maxRecDepth 20000 in
theorem b_207_25 {d nS : Nat} {s0 : Int32} {zx1 : Value} {M : am_M} {Q : Option Value → am_H → Prop} : am_Wp d 207 25 [.ref 205, zx1] [.int s0] (hp nS M) Q = if s0 = 0 then am_Wp d 207 101 [.ref 205, zx1] [] (hp nS M) Q else am_Wp d 207 28 [.ref 205, zx1] [] (hp nS M) Q := by
  exact eq_if_eq (by with_unfolding_all rfl)
set_option maxRecDepth 20000 in
theorem b_207_28 {d nS : Nat} {zx1 : Value} {M : am_M} {Q : Option Value → am_H → Prop} : am_Wp (d + 1) 207 28 [.ref 205, zx1] [] (hp nS M) Q = am_Wp d 199 0 [.ref 205, .int 42] [] (hp nS M) (fun v h1 => am_Wp (d + 1) 207 34 [.ref 205, zx1] (am_ans v []) h1 Q) := by
  refine (eq_run 2 (q := (31, [.ref 205, zx1], [.int 42, .ref 205], hp nS M)) (by with_unfolding_all rfl)).trans ?_
  exact eq_call2 (e := (.invokevirtual 225, 3, 0, 199, 292)) (as := [.ref 205, .int 42]) (r := []) (n := 2) (m := 2) (by with_unfolding_all rfl) rfl (by decide) (by with_unfolding_all rfl) (by decide) (by with_unfolding_all rfl) ⟨fun _ => am_rec_ok (c := 14) (by with_unfolding_all rfl) (by decide +kernel), fun z => by simp at z⟩
set_option maxRecDepth 20000 in
theorem b_207_34 {d nS : Nat} {s0 : Int32} {zx1 : Value} {M : am_M} {Q : Option Value → am_H → Prop} : am_Wp (d + 1) 207 34 [.ref 205, zx1] [.int s0] (hp nS M) Q = am_Wp d 185 0 [.ref 205, .retAddr 0] [] (hp nS M) (fun v h1 => am_Wp (d + 1) 207 39 [.ref 205, .int s0] (am_ans v []) h1 Q) := by
  refine (eq_run 2 (q := (36, [.ref 205, .int s0], [.ref 205], hp nS M)) (by with_unfolding_all rfl)).trans ?_
  exact eq_call2 (e := (.invokevirtual 218, 3, 0, 185, 290)) (as := [.ref 205]) (r := []) (n := 1) (m := 2) (by with_unfolding_all rfl) rfl (by decide) (by with_unfolding_all rfl) (by decide) (by with_unfolding_all rfl) ⟨fun _ => am_rec_ok (c := 14) (by with_unfolding_all rfl) (by decide +kernel), fun z => by simp at z⟩
set_option maxRecDepth 20000 in
theorem b_207_39 {d nS : Nat} {x1 : Int32} {M : am_M} {Q : Option Value → am_H → Prop} : am_Wp d 207 39 [.ref 205, .int x1] [] (hp nS M) Q = if ¬ x1 = 0 then am_Wp d 207 57 [.ref 205, .int x1] [] (hp nS M) Q else am_Wp d 207 43 [.ref 205, .int x1] [] (hp nS M) Q := by
  refine (eq_run 1 (q := (40, [.ref 205, .int x1], [.int x1], hp nS M)) (by with_unfolding_all rfl)).trans ?_
  exact eq_if_ne (by with_unfolding_all rfl)
set_option maxRecDepth 20000 in
theorem b_207_43 {d nS : Nat} {x1 : Int32} {M : am_M} {Q : Option Value → am_H → Prop} : am_Wp d 207 43 [.ref 205, .int x1] [] (hp nS M) Q = if (M 205 18) = 3 then am_Wp d 207 57 [.ref 205, .int x1] [] (hp nS M) Q else am_Wp d 207 51 [.ref 205, .int x1] [] (hp nS M) Q := by
  refine (eq_run 3 (q := (48, [.ref 205, .int x1], [.int 3, .int (M 205 18)], hp nS M)) (by with_unfolding_all rfl)).trans ?_
  exact eq_cmp_eq (by with_unfolding_all rfl)
set_option maxRecDepth 20000 in
theorem b_207_51 {d nS : Nat} {x1 : Int32} {M : am_M} {Q : Option Value → am_H → Prop} : am_Wp (d + 1) 207 51 [.ref 205, .int x1] [] (hp nS M) Q = am_Wp d 193 0 [.ref 205, .int 1] [] (hp nS M) (fun v h1 => am_Wp (d + 1) 207 56 [.ref 205, .int x1] (am_ans v []) h1 Q) := by
  refine (eq_run 2 (q := (53, [.ref 205, .int x1], [.int 1, .ref 205], hp nS M)) (by with_unfolding_all rfl)).trans ?_
  exact eq_call2 (e := (.invokevirtual 211, 3, 0, 193, 288)) (as := [.ref 205, .int 1]) (r := []) (n := 2) (m := 2) (by with_unfolding_all rfl) rfl (by decide) (by with_unfolding_all rfl) (by decide) (by with_unfolding_all rfl) ⟨fun _ => am_rec_ok (c := 14) (by with_unfolding_all rfl) (by decide +kernel), fun z => by simp at z⟩
set_option maxRecDepth 20000 in
theorem b_207_56 {d nS : Nat} {x1 s0 : Int32} {M : am_M} {Q : Option Value → am_H → Prop} : am_Wp d 207 56 [.ref 205, .int x1] [.int s0] (hp nS M) Q = Q (some (.int s0)) (hp nS M) := by
  exact eq_retI2 (e := (.ireturn, 1, 0, 0, 0)) (t := .int) (by with_unfolding_all rfl) rfl (by with_unfolding_all rfl) rfl
set_option maxRecDepth 20000 in
theorem b_207_57 {d nS : Nat} {x1 : Int32} {M : am_M} {Q : Option Value → am_H → Prop} : am_Wp d 207 57 [.ref 205, .int x1] [] (hp nS M) Q = if ¬ x1 = 0 then am_Wp d 207 74 [.ref 205, .int x1] [] (hp nS M) Q else am_Wp d 207 61 [.ref 205, .int x1] [] (hp nS M) Q := by
  refine (eq_run 1 (q := (58, [.ref 205, .int x1], [.int x1], hp nS M)) (by with_unfolding_all rfl)).trans ?_
  exact eq_if_ne (by with_unfolding_all rfl)
set_option maxRecDepth 20000 in
theorem b_207_61 {d nS : Nat} {x1 : Int32} {M : am_M} {Q : Option Value → am_H → Prop} : am_Wp d 207 61 [.ref 205, .int x1] [] (hp nS M) Q = if ¬ (M 205 19) = 0 then am_Wp d 207 74 [.ref 205, .int x1] [] (hp nS M) Q else am_Wp d 207 68 [.ref 205, .int x1] [] (hp nS M) Q := by
  refine (eq_run 2 (q := (65, [.ref 205, .int x1], [.int (M 205 19)], hp nS M)) (by with_unfolding_all rfl)).trans ?_
  exact eq_if_ne (by with_unfolding_all rfl)
set_option maxRecDepth 20000 in
theorem b_207_68 {d nS : Nat} {x1 : Int32} {M : am_M} {Q : Option Value → am_H → Prop} : am_Wp (d + 1) 207 68 [.ref 205, .int x1] [] (hp nS M) Q = am_Wp d 193 0 [.ref 205, .int 2] [] (hp nS M) (fun v h1 => am_Wp (d + 1) 207 73 [.ref 205, .int x1] (am_ans v []) h1 Q) := by
  refine (eq_run 2 (q := (70, [.ref 205, .int x1], [.int 2, .ref 205], hp nS M)) (by with_unfolding_all rfl)).trans ?_
  exact eq_call2 (e := (.invokevirtual 211, 3, 0, 193, 288)) (as := [.ref 205, .int 2]) (r := []) (n := 2) (m := 2) (by with_unfolding_all rfl) rfl (by decide) (by with_unfolding_all rfl) (by decide) (by with_unfolding_all rfl) ⟨fun _ => am_rec_ok (c := 14) (by with_unfolding_all rfl) (by decide +kernel), fun z => by simp at z⟩
set_option maxRecDepth 20000 in
theorem b_207_73 {d nS : Nat} {x1 s0 : Int32} {M : am_M} {Q : Option Value → am_H → Prop} : am_Wp d 207 73 [.ref 205, .int x1] [.int s0] (hp nS M) Q = Q (some (.int s0)) (hp nS M) := by
  exact eq_retI2 (e := (.ireturn, 1, 0, 0, 0)) (t := .int) (by with_unfolding_all rfl) rfl (by with_unfolding_all rfl) rfl
set_option maxRecDepth 20000 in
theorem b_207_74 {d nS : Nat} {x1 : Int32} {M : am_M} {Q : Option Value → am_H → Prop} : am_Wp (d + 1) 207 74 [.ref 205, .int x1] [] (hp nS M) Q = am_Wp d 208 0 [.ref 205, .retAddr 0] [] (hp nS M) (fun v h1 => am_Wp (d + 1) 207 78 [.ref 205, .int x1] (am_ans v []) h1 Q) := by
  refine (eq_run 1 (q := (75, [.ref 205, .int x1], [.ref 205], hp nS M)) (by with_unfolding_all rfl)).trans ?_
  exact eq_call2 (e := (.invokevirtual 221, 3, 0, 208, 291)) (as := [.ref 205]) (r := []) (n := 1) (m := 2) (by with_unfolding_all rfl) rfl (by decide) (by with_unfolding_all rfl) (by decide) (by with_unfolding_all rfl) ⟨fun _ => am_rec_ok (c := 14) (by with_unfolding_all rfl) (by decide +kernel), fun z => by simp at z⟩
set_option maxRecDepth 20000 in
theorem b_207_78 {d nS : Nat} {x1 s0 : Int32} {M : am_M} {Q : Option Value → am_H → Prop} : am_Wp d 207 78 [.ref 205, .int x1] [.int s0] (hp nS M) Q = if ¬ s0 = (-1) then am_Wp d 207 84 [.ref 205, .int x1] [] (hp nS M) Q else am_Wp d 207 82 [.ref 205, .int x1] [] (hp nS M) Q := by
  refine (eq_run 1 (q := (79, [.ref 205, .int x1], [.int (-1), .int s0], hp nS M)) (by with_unfolding_all rfl)).trans ?_
  exact eq_cmp_ne (by with_unfolding_all rfl)
set_option maxRecDepth 20000 in
theorem b_207_82 {d nS : Nat} {x1 : Int32} {M : am_M} {Q : Option Value → am_H → Prop} : am_Wp d 207 82 [.ref 205, .int x1] [] (hp nS M) Q = Q (some (.int (-1))) (hp nS M) := by
  refine (eq_run 1 (q := (83, [.ref 205, .int x1], [.int (-1)], hp nS M)) (by with_unfolding_all rfl)).trans ?_
  exact eq_retI2 (e := (.ireturn, 1, 0, 0, 0)) (t := .int) (by with_unfolding_all rfl) rfl (by with_unfolding_all rfl) rfl
set_option maxRecDepth 20000 in
theorem b_207_84 {d nS : Nat} {x1 : Int32} {M : am_M} {Q : Option Value → am_H → Prop} : am_Wp d 207 84 [.ref 205, .int x1] [] (hp nS M) Q = if x1 = 0 then am_Wp d 207 93 [.ref 205, .int x1] [.ref 205] (hp nS M) Q else am_Wp d 207 89 [.ref 205, .int x1] [.ref 205] (hp nS M) Q := by
  refine (eq_run 2 (q := (86, [.ref 205, .int x1], [.int x1, .ref 205], hp nS M)) (by with_unfolding_all rfl)).trans ?_
  exact eq_if_eq (by with_unfolding_all rfl)
set_option maxRecDepth 20000 in
theorem b_207_89 {d nS : Nat} {x1 : Int32} {M : am_M} {Q : Option Value → am_H → Prop} : am_Wp d 207 89 [.ref 205, .int x1] [.ref 205] (hp nS M) Q = am_Wp d 207 94 [.ref 205, .int x1] [.int 4, .ref 205] (hp nS M) Q := by
  exact eq_run 2 (q := (94, [.ref 205, .int x1], [.int 4, .ref 205], hp nS M)) (by with_unfolding_all rfl)
set_option maxRecDepth 20000 in
theorem b_207_93 {d nS : Nat} {x1 : Int32} {M : am_M} {Q : Option Value → am_H → Prop} : am_Wp d 207 93 [.ref 205, .int x1] [.ref 205] (hp nS M) Q = am_Wp d 207 94 [.ref 205, .int x1] [.int 5, .ref 205] (hp nS M) Q := by
  exact eq_run 1 (q := (94, [.ref 205, .int x1], [.int 5, .ref 205], hp nS M)) (by with_unfolding_all rfl)
set_option maxRecDepth 20000 in
theorem b_207_94 {d nS : Nat} {x1 s1 : Int32} {M : am_M} {Q : Option Value → am_H → Prop} : am_Wp (d + 1) 207 94 [.ref 205, .int x1] [.int s1, .ref 205] (hp nS M) Q = am_Wp d 210 0 [.ref 205, .int s1, .int 0] [] (hp nS M) (fun v h1 => am_Wp (d + 1) 207 98 [.ref 205, .int x1] (am_ans v []) h1 Q) := by
  refine (eq_run 1 (q := (95, [.ref 205, .int x1], [.int 0, .int s1, .ref 205], hp nS M)) (by with_unfolding_all rfl)).trans ?_
  exact eq_call2 (e := (.invokevirtual 214, 3, 0, 210, 289)) (as := [.ref 205, .int s1, .int 0]) (r := []) (n := 3) (m := 3) (by with_unfolding_all rfl) rfl (by decide) (by with_unfolding_all rfl) (by decide) (by with_unfolding_all rfl) ⟨fun _ => am_rec_ok (c := 14) (by with_unfolding_all rfl) (by decide +kernel), fun z => by simp at z⟩
set_option maxRecDepth 20000 in
theorem b_207_98 {d nS : Nat} {x1 : Int32} {M : am_M} {Q : Option Value → am_H → Prop} : am_Wp d 207 98 [.ref 205, .int x1] [] (hp nS M) Q = am_Wp d 207 10 [.ref 205, .int x1] [] (hp nS M) Q := by
  exact eq_run 1 (q := (10, [.ref 205, .int x1], [], hp nS M)) (by with_unfolding_all rfl)
set_option maxRecDepth 20000 in
theorem b_207_101 {d nS : Nat} {zx1 : Value} {M : am_M} {Q : Option Value → am_H → Prop} : am_Wp d 207 101 [.ref 205, zx1] [] (hp nS M) Q = Q (some (.int 0)) (hp nS M) := by
  refine (eq_run 1 (q := (102, [.ref 205, zx1], [.int 0], hp nS M)) (by with_unfolding_all rfl)).trans ?_
  exact eq_retI2 (e := (.ireturn, 1, 0, 0, 0)) (t := .int) (by with_unfolding_all rfl) rfl (by with_unfolding_all rfl) rfl
-- readUnit()I
set_option maxRecDepth 20000 in
theorem b_208_0 {d nS : Nat} {M : am_M} {Q : Option Value → am_H → Prop} : am_Wp d 208 0 [.ref 205, .retAddr 0] [] (hp nS M) Q = if ¬ (M 205 18) = 2 then am_Wp d 208 23 [.ref 205, .retAddr 0] [] (hp nS M) Q else am_Wp d 208 8 [.ref 205, .retAddr 0] [] (hp nS M) Q := by
  refine (eq_run 3 (q := (5, [.ref 205, .retAddr 0], [.int 2, .int (M 205 18)], hp nS M)) (by with_unfolding_all rfl)).trans ?_
  exact eq_cmp_ne (by with_unfolding_all rfl)
set_option maxRecDepth 20000 in
theorem b_208_8 {d nS : Nat} {M : am_M} {Q : Option Value → am_H → Prop} : am_Wp (d + 1) 208 8 [.ref 205, .retAddr 0] [] (hp nS M) Q = am_Wp d 209 0 [.ref 205, .int (M 205 19)] [] (hp nS M) (fun v h1 => am_Wp (d + 1) 208 16 [.ref 205, .retAddr 0] (am_ans v []) h1 Q) := by
  refine (eq_run 3 (q := (13, [.ref 205, .retAddr 0], [.int (M 205 19), .ref 205], hp nS M)) (by with_unfolding_all rfl)).trans ?_
  exact eq_call2 (e := (.invokevirtual 208, 3, 0, 209, 287)) (as := [.ref 205, .int (M 205 19)]) (r := []) (n := 2) (m := 2) (by with_unfolding_all rfl) rfl (by decide) (by with_unfolding_all rfl) (by decide) (by with_unfolding_all rfl) ⟨fun _ => am_rec_ok (c := 14) (by with_unfolding_all rfl) (by decide +kernel), fun z => by simp at z⟩
set_option maxRecDepth 20000 in
theorem b_208_16 {d nS : Nat} {s0 : Int32} {M : am_M} {Q : Option Value → am_H → Prop} : am_Wp d 208 16 [.ref 205, .retAddr 0] [.int s0] (hp nS M) Q = if s0 = 0 then am_Wp d 208 23 [.ref 205, .retAddr 0] [] (hp nS M) Q else am_Wp d 208 19 [.ref 205, .retAddr 0] [] (hp nS M) Q := by
  exact eq_if_eq (by with_unfolding_all rfl)
set_option maxRecDepth 20000 in
theorem b_208_19 {d nS : Nat} {M : am_M} {Q : Option Value → am_H → Prop} : am_Wp d 208 19 [.ref 205, .retAddr 0] [] (hp nS M) Q = am_Wp d 208 24 [.ref 205, .retAddr 0] [.int 1] (hp nS M) Q := by
  exact eq_run 2 (q := (24, [.ref 205, .retAddr 0], [.int 1], hp nS M)) (by with_unfolding_all rfl)
set_option maxRecDepth 20000 in
theorem b_208_23 {d nS : Nat} {M : am_M} {Q : Option Value → am_H → Prop} : am_Wp d 208 23 [.ref 205, .retAddr 0] [] (hp nS M) Q = am_Wp d 208 24 [.ref 205, .retAddr 0] [.int 0] (hp nS M) Q := by
  exact eq_run 1 (q := (24, [.ref 205, .retAddr 0], [.int 0], hp nS M)) (by with_unfolding_all rfl)
set_option maxRecDepth 20000 in
theorem b_208_24 {d nS : Nat} {s0 : Int32} {M : am_M} {Q : Option Value → am_H → Prop} : am_Wp d 208 24 [.ref 205, .retAddr 0] [.int s0] (hp nS M) Q = if ¬ s0 = 0 then am_Wp d 208 43 [.ref 205, .int s0] [] (hp nS M) Q else am_Wp d 208 29 [.ref 205, .int s0] [] (hp nS M) Q := by
  refine (eq_run 2 (q := (26, [.ref 205, .int s0], [.int s0], hp nS M)) (by with_unfolding_all rfl)).trans ?_
  exact eq_if_ne (by with_unfolding_all rfl)
set_option maxRecDepth 20000 in
theorem b_208_29 {d nS : Nat} {x1 : Int32} {M : am_M} {Q : Option Value → am_H → Prop} : am_Wp d 208 29 [.ref 205, .int x1] [] (hp nS M) Q = if (M 205 18) = 3 then am_Wp d 208 43 [.ref 205, .int x1] [] (hp nS M) Q else am_Wp d 208 37 [.ref 205, .int x1] [] (hp nS M) Q := by
  refine (eq_run 3 (q := (34, [.ref 205, .int x1], [.int 3, .int (M 205 18)], hp nS M)) (by with_unfolding_all rfl)).trans ?_
  exact eq_cmp_eq (by with_unfolding_all rfl)
set_option maxRecDepth 20000 in
theorem b_208_37 {d nS : Nat} {x1 : Int32} {M : am_M} {Q : Option Value → am_H → Prop} : am_Wp (d + 1) 208 37 [.ref 205, .int x1] [] (hp nS M) Q = am_Wp d 193 0 [.ref 205, .int 1] [] (hp nS M) (fun v h1 => am_Wp (d + 1) 208 42 [.ref 205, .int x1] (am_ans v []) h1 Q) := by
  refine (eq_run 2 (q := (39, [.ref 205, .int x1], [.int 1, .ref 205], hp nS M)) (by with_unfolding_all rfl)).trans ?_
  exact eq_call2 (e := (.invokevirtual 211, 3, 0, 193, 288)) (as := [.ref 205, .int 1]) (r := []) (n := 2) (m := 2) (by with_unfolding_all rfl) rfl (by decide) (by with_unfolding_all rfl) (by decide) (by with_unfolding_all rfl) ⟨fun _ => am_rec_ok (c := 14) (by with_unfolding_all rfl) (by decide +kernel), fun z => by simp at z⟩
set_option maxRecDepth 20000 in
theorem b_208_42 {d nS : Nat} {x1 s0 : Int32} {M : am_M} {Q : Option Value → am_H → Prop} : am_Wp d 208 42 [.ref 205, .int x1] [.int s0] (hp nS M) Q = Q (some (.int s0)) (hp nS M) := by
  exact eq_retI2 (e := (.ireturn, 1, 0, 0, 0)) (t := .int) (by with_unfolding_all rfl) rfl (by with_unfolding_all rfl) rfl
set_option maxRecDepth 20000 in
theorem b_208_43 {d nS : Nat} {x1 : Int32} {M : am_M} {Q : Option Value → am_H → Prop} : am_Wp d 208 43 [.ref 205, .int x1] [] (hp nS M) Q = if x1 = 0 then am_Wp d 208 52 [.ref 205, .int x1] [.ref 205] (hp nS M) Q else am_Wp d 208 48 [.ref 205, .int x1] [.ref 205] (hp nS M) Q := by
  refine (eq_run 2 (q := (45, [.ref 205, .int x1], [.int x1, .ref 205], hp nS M)) (by with_unfolding_all rfl)).trans ?_
  exact eq_if_eq (by with_unfolding_all rfl)
set_option maxRecDepth 20000 in
theorem b_208_48 {d nS : Nat} {x1 : Int32} {M : am_M} {Q : Option Value → am_H → Prop} : am_Wp d 208 48 [.ref 205, .int x1] [.ref 205] (hp nS M) Q = am_Wp d 208 53 [.ref 205, .int x1] [.int 1, .ref 205] (hp nS M) Q := by
  exact eq_run 2 (q := (53, [.ref 205, .int x1], [.int 1, .ref 205], hp nS M)) (by with_unfolding_all rfl)
set_option maxRecDepth 20000 in
theorem b_208_52 {d nS : Nat} {x1 : Int32} {M : am_M} {Q : Option Value → am_H → Prop} : am_Wp d 208 52 [.ref 205, .int x1] [.ref 205] (hp nS M) Q = am_Wp d 208 53 [.ref 205, .int x1] [.int 0, .ref 205] (hp nS M) Q := by
  exact eq_run 1 (q := (53, [.ref 205, .int x1], [.int 0, .ref 205], hp nS M)) (by with_unfolding_all rfl)
set_option maxRecDepth 20000 in
theorem b_208_53 {d nS : Nat} {x1 s1 : Int32} {M : am_M} {Q : Option Value → am_H → Prop} : am_Wp d 208 53 [.ref 205, .int x1] [.int s1, .ref 205] (hp nS M) Q = if x1 = 0 then am_Wp d 208 67 [.ref 205, .int x1] [.int s1, .ref 205] (hp nS M) Q else am_Wp d 208 57 [.ref 205, .int x1] [.int s1, .ref 205] (hp nS M) Q := by
  refine (eq_run 1 (q := (54, [.ref 205, .int x1], [.int x1, .int s1, .ref 205], hp nS M)) (by with_unfolding_all rfl)).trans ?_
  exact eq_if_eq (by with_unfolding_all rfl)
set_option maxRecDepth 20000 in
theorem b_208_57 {d nS : Nat} {x1 s1 : Int32} {M : am_M} {Q : Option Value → am_H → Prop} : am_Wp d 208 57 [.ref 205, .int x1] [.int s1, .ref 205] (hp nS M) Q = am_Wp d 208 71 [.ref 205, .int x1] [.int ((M 205 19) - 7), .int s1, .ref 205] (hp nS M) Q := by
  exact eq_run 5 (q := (71, [.ref 205, .int x1], [.int ((M 205 19) - 7), .int s1, .ref 205], hp nS M)) (by with_unfolding_all rfl)
set_option maxRecDepth 20000 in
theorem b_208_67 {d nS : Nat} {x1 s1 : Int32} {M : am_M} {Q : Option Value → am_H → Prop} : am_Wp d 208 67 [.ref 205, .int x1] [.int s1, .ref 205] (hp nS M) Q = am_Wp d 208 71 [.ref 205, .int x1] [.int (M 205 19), .int s1, .ref 205] (hp nS M) Q := by
  exact eq_run 2 (q := (71, [.ref 205, .int x1], [.int (M 205 19), .int s1, .ref 205], hp nS M)) (by with_unfolding_all rfl)
set_option maxRecDepth 20000 in
theorem b_208_71 {d nS : Nat} {x1 s1 s2 : Int32} {M : am_M} {Q : Option Value → am_H → Prop} : am_Wp (d + 1) 208 71 [.ref 205, .int x1] [.int s2, .int s1, .ref 205] (hp nS M) Q = am_Wp d 210 0 [.ref 205, .int s1, .int s2] [] (hp nS M) (fun v h1 => am_Wp (d + 1) 208 74 [.ref 205, .int x1] (am_ans v []) h1 Q) := by
  exact eq_call2 (e := (.invokevirtual 214, 3, 0, 210, 289)) (as := [.ref 205, .int s1, .int s2]) (r := []) (n := 3) (m := 3) (by with_unfolding_all rfl) rfl (by decide) (by with_unfolding_all rfl) (by decide) (by with_unfolding_all rfl) ⟨fun _ => am_rec_ok (c := 14) (by with_unfolding_all rfl) (by decide +kernel), fun z => by simp at z⟩
set_option maxRecDepth 20000 in
theorem b_208_74 {d nS : Nat} {x1 : Int32} {M : am_M} {Q : Option Value → am_H → Prop} : am_Wp (d + 1) 208 74 [.ref 205, .int x1] [] (hp nS M) Q = am_Wp d 185 0 [.ref 205, .retAddr 0] [] (hp nS M) (fun v h1 => am_Wp (d + 1) 208 78 [.ref 205, .int x1] (am_ans v []) h1 Q) := by
  refine (eq_run 1 (q := (75, [.ref 205, .int x1], [.ref 205], hp nS M)) (by with_unfolding_all rfl)).trans ?_
  exact eq_call2 (e := (.invokevirtual 218, 3, 0, 185, 290)) (as := [.ref 205]) (r := []) (n := 1) (m := 2) (by with_unfolding_all rfl) rfl (by decide) (by with_unfolding_all rfl) (by decide) (by with_unfolding_all rfl) ⟨fun _ => am_rec_ok (c := 14) (by with_unfolding_all rfl) (by decide +kernel), fun z => by simp at z⟩
set_option maxRecDepth 20000 in
theorem b_208_78 {d nS : Nat} {x1 : Int32} {M : am_M} {Q : Option Value → am_H → Prop} : am_Wp d 208 78 [.ref 205, .int x1] [] (hp nS M) Q = Q (some (.int 0)) (hp nS M) := by
  refine (eq_run 1 (q := (79, [.ref 205, .int x1], [.int 0], hp nS M)) (by with_unfolding_all rfl)).trans ?_
  exact eq_retI2 (e := (.ireturn, 1, 0, 0, 0)) (t := .int) (by with_unfolding_all rfl) rfl (by with_unfolding_all rfl) rfl
-- canAsk(I)Z
set_option maxRecDepth 20000 in
theorem b_209_0 {d nS : Nat} {x1 : Int32} {M : am_M} {Q : Option Value → am_H → Prop} : am_Wp (d + 1) 209 0 [.ref 205, .int x1] [] (hp nS M) Q = am_Wp d 171 0 [.ref 205, .int x1, .int 7, .int 15] [] (hp nS M) (fun v h1 => am_Wp (d + 1) 209 9 [.ref 205, .int x1] (am_ans v []) h1 Q) := by
  refine (eq_run 4 (q := (6, [.ref 205, .int x1], [.int 15, .int 7, .int x1, .ref 205], hp nS M)) (by with_unfolding_all rfl)).trans ?_
  exact eq_call2 (e := (.invokevirtual 144, 3, 0, 171, 275)) (as := [.ref 205, .int x1, .int 7, .int 15]) (r := []) (n := 4) (m := 4) (by with_unfolding_all rfl) rfl (by decide) (by with_unfolding_all rfl) (by decide) (by with_unfolding_all rfl) ⟨fun _ => am_rec_ok (c := 14) (by with_unfolding_all rfl) (by decide +kernel), fun z => by simp at z⟩
set_option maxRecDepth 20000 in
theorem b_209_9 {d nS : Nat} {x1 s0 : Int32} {M : am_M} {Q : Option Value → am_H → Prop} (h1 : am_rok .boolean s0 = true) : am_Wp d 209 9 [.ref 205, .int x1] [.int s0] (hp nS M) Q = Q (some (.int s0)) (hp nS M) := by
  exact eq_retI2 (e := (.ireturn, 1, 0, 0, 0)) (t := .boolean) (by with_unfolding_all rfl) rfl (by with_unfolding_all rfl) h1
-- emits(II)V
set_option maxRecDepth 20000 in
theorem b_210_0 {d nS : Nat} {x1 x2 : Int32} {M : am_M} {Q : Option Value → am_H → Prop} (h1 : vp_in (800 + (M 205 29)) 1200) (h2 : vp_in (800 + ((am_up M 219 (800 + (M 205 29)).toNatClampNeg x1) 205 29)) 1200) : am_Wp d 210 0 [.ref 205, .int x1, .int x2] [] (hp nS M) Q = Q none (hp nS (am_up (am_up (am_up M 219 (800 + (M 205 29)).toNatClampNeg x1) 220 (800 + ((am_up M 219 (800 + (M 205 29)).toNatClampNeg x1) 205 29)).toNatClampNeg x2) 205 29 (((am_up (am_up M 219 (800 + (M 205 29)).toNatClampNeg x1) 220 (800 + ((am_up M 219 (800 + (M 205 29)).toNatClampNeg x1) 205 29)).toNatClampNeg x2) 205 29) + 1))) := by
  refine (eq_run 7 (q := (13, [.ref 205, .int x1, .int x2], [.int x1, .int (800 + (M 205 29)), .ref 219], hp nS M)) (by with_unfolding_all rfl)).trans ?_
  refine (eq_ast (e := (.iastore, 1, 0, 0, 0)) (by with_unfolding_all rfl) rfl (n := 1200) (by with_unfolding_all rfl) (by decide) h1).trans ?_
  refine (eq_run 7 (q := (27, [.ref 205, .int x1, .int x2], [.int x2, .int (800 + ((am_up M 219 (800 + (M 205 29)).toNatClampNeg x1) 205 29)), .ref 220], hp nS (am_up M 219 (800 + (M 205 29)).toNatClampNeg x1))) (by with_unfolding_all rfl)).trans ?_
  refine (eq_ast (e := (.iastore, 1, 0, 0, 0)) (by with_unfolding_all rfl) rfl (n := 1200) (by with_unfolding_all rfl) (by decide) h2).trans ?_
  refine (eq_run 6 (q := (38, [.ref 205, .int x1, .int x2], [], hp nS (am_up (am_up (am_up M 219 (800 + (M 205 29)).toNatClampNeg x1) 220 (800 + ((am_up M 219 (800 + (M 205 29)).toNatClampNeg x1) 205 29)).toNatClampNeg x2) 205 29 (((am_up (am_up M 219 (800 + (M 205 29)).toNatClampNeg x1) 220 (800 + ((am_up M 219 (800 + (M 205 29)).toNatClampNeg x1) 205 29)).toNatClampNeg x2) 205 29) + 1)))) (by with_unfolding_all rfl)).trans ?_
  exact eq_retV2 (e := (.return_, 1, 0, 0, 0)) (by with_unfolding_all rfl) rfl (by with_unfolding_all rfl)
-- readAny()I
set_option maxRecDepth 20000 in
theorem b_211_0 {d nS : Nat} {M : am_M} {Q : Option Value → am_H → Prop} : am_Wp d 211 0 [.ref 205, .retAddr 0, .retAddr 0, .retAddr 0] [] (hp nS M) Q = am_Wp d 211 9 [.ref 205, .int 0, .int 1, .retAddr 0] [] (hp nS (am_up M 205 32 0)) Q := by
  exact eq_run 7 (q := (9, [.ref 205, .int 0, .int 1, .retAddr 0], [], hp nS (am_up M 205 32 0))) (by with_unfolding_all rfl)
set_option maxRecDepth 20000 in
theorem b_211_9 {d nS : Nat} {x1 x2 : Int32} {zx3 : Value} {M : am_M} {Q : Option Value → am_H → Prop} : am_Wp d 211 9 [.ref 205, .int x1, .int x2, zx3] [] (hp nS M) Q = if x2 = 0 then am_Wp d 211 109 [.ref 205, .int x1, .int x2, zx3] [] (hp nS M) Q else am_Wp d 211 13 [.ref 205, .int x1, .int x2, zx3] [] (hp nS M) Q := by
  refine (eq_run 1 (q := (10, [.ref 205, .int x1, .int x2, zx3], [.int x2], hp nS M)) (by with_unfolding_all rfl)).trans ?_
  exact eq_if_eq (by with_unfolding_all rfl)
set_option maxRecDepth 20000 in
theorem b_211_13 {d nS : Nat} {x1 x2 : Int32} {zx3 : Value} {M : am_M} {Q : Option Value → am_H → Prop} : am_Wp (d + 1) 211 13 [.ref 205, .int x1, .int x2, zx3] [] (hp nS M) Q = am_Wp d 192 0 [.ref 205, .int 6] [] (hp nS M) (fun v h1 => am_Wp (d + 1) 211 19 [.ref 205, .int x1, .int x2, zx3] (am_ans v []) h1 Q) := by
  refine (eq_run 2 (q := (16, [.ref 205, .int x1, .int x2, zx3], [.int 6, .ref 205], hp nS M)) (by with_unfolding_all rfl)).trans ?_
  exact eq_call2 (e := (.invokevirtual 240, 3, 0, 192, 295)) (as := [.ref 205, .int 6]) (r := []) (n := 2) (m := 2) (by with_unfolding_all rfl) rfl (by decide) (by with_unfolding_all rfl) (by decide) (by with_unfolding_all rfl) ⟨fun _ => am_rec_ok (c := 14) (by with_unfolding_all rfl) (by decide +kernel), fun z => by simp at z⟩
set_option maxRecDepth 20000 in
theorem b_211_19 {d nS : Nat} {x1 x2 s0 : Int32} {zx3 : Value} {M : am_M} {Q : Option Value → am_H → Prop} : am_Wp d 211 19 [.ref 205, .int x1, .int x2, zx3] [.int s0] (hp nS M) Q = if ¬ s0 = 0 then am_Wp d 211 33 [.ref 205, .int x1, .int x2, .int s0] [] (hp nS M) Q else am_Wp d 211 24 [.ref 205, .int x1, .int x2, .int s0] [] (hp nS M) Q := by
  refine (eq_run 2 (q := (21, [.ref 205, .int x1, .int x2, .int s0], [.int s0], hp nS M)) (by with_unfolding_all rfl)).trans ?_
  exact eq_if_ne (by with_unfolding_all rfl)
set_option maxRecDepth 20000 in
theorem b_211_24 {d nS : Nat} {x1 x2 x3 : Int32} {M : am_M} {Q : Option Value → am_H → Prop} : am_Wp (d + 1) 211 24 [.ref 205, .int x1, .int x2, .int x3] [] (hp nS M) Q = am_Wp d 199 0 [.ref 205, .int 40] [] (hp nS M) (fun v h1 => am_Wp (d + 1) 211 30 [.ref 205, .int x1, .int x2, .int x3] (am_ans v []) h1 Q) := by
  refine (eq_run 2 (q := (27, [.ref 205, .int x1, .int x2, .int x3], [.int 40, .ref 205], hp nS M)) (by with_unfolding_all rfl)).trans ?_
  exact eq_call2 (e := (.invokevirtual 225, 3, 0, 199, 292)) (as := [.ref 205, .int 40]) (r := []) (n := 2) (m := 2) (by with_unfolding_all rfl) rfl (by decide) (by with_unfolding_all rfl) (by decide) (by with_unfolding_all rfl) ⟨fun _ => am_rec_ok (c := 14) (by with_unfolding_all rfl) (by decide +kernel), fun z => by simp at z⟩
set_option maxRecDepth 20000 in
theorem b_211_30 {d nS : Nat} {x1 x2 x3 s0 : Int32} {M : am_M} {Q : Option Value → am_H → Prop} : am_Wp d 211 30 [.ref 205, .int x1, .int x2, .int x3] [.int s0] (hp nS M) Q = if s0 = 0 then am_Wp d 211 88 [.ref 205, .int x1, .int x2, .int x3] [] (hp nS M) Q else am_Wp d 211 33 [.ref 205, .int x1, .int x2, .int x3] [] (hp nS M) Q := by
  exact eq_if_eq (by with_unfolding_all rfl)
set_option maxRecDepth 20000 in
theorem b_211_33 {d nS : Nat} {x1 x2 x3 : Int32} {M : am_M} {Q : Option Value → am_H → Prop} : am_Wp d 211 33 [.ref 205, .int x1, .int x2, .int x3] [] (hp nS M) Q = if ¬ (M 205 30) = 8 then am_Wp d 211 48 [.ref 205, .int x1, .int x2, .int x3] [] (hp nS M) Q else am_Wp d 211 42 [.ref 205, .int x1, .int x2, .int x3] [] (hp nS M) Q := by
  refine (eq_run 3 (q := (39, [.ref 205, .int x1, .int x2, .int x3], [.int 8, .int (M 205 30)], hp nS M)) (by with_unfolding_all rfl)).trans ?_
  exact eq_cmp_ne (by with_unfolding_all rfl)
set_option maxRecDepth 20000 in
theorem b_211_42 {d nS : Nat} {x1 x2 x3 : Int32} {M : am_M} {Q : Option Value → am_H → Prop} : am_Wp (d + 1) 211 42 [.ref 205, .int x1, .int x2, .int x3] [] (hp nS M) Q = am_Wp d 193 0 [.ref 205, .int 3] [] (hp nS M) (fun v h1 => am_Wp (d + 1) 211 47 [.ref 205, .int x1, .int x2, .int x3] (am_ans v []) h1 Q) := by
  refine (eq_run 2 (q := (44, [.ref 205, .int x1, .int x2, .int x3], [.int 3, .ref 205], hp nS M)) (by with_unfolding_all rfl)).trans ?_
  exact eq_call2 (e := (.invokevirtual 211, 3, 0, 193, 288)) (as := [.ref 205, .int 3]) (r := []) (n := 2) (m := 2) (by with_unfolding_all rfl) rfl (by decide) (by with_unfolding_all rfl) (by decide) (by with_unfolding_all rfl) ⟨fun _ => am_rec_ok (c := 14) (by with_unfolding_all rfl) (by decide +kernel), fun z => by simp at z⟩
set_option maxRecDepth 20000 in
theorem b_211_47 {d nS : Nat} {x1 x2 x3 s0 : Int32} {M : am_M} {Q : Option Value → am_H → Prop} : am_Wp d 211 47 [.ref 205, .int x1, .int x2, .int x3] [.int s0] (hp nS M) Q = Q (some (.int s0)) (hp nS M) := by
  exact eq_retI2 (e := (.ireturn, 1, 0, 0, 0)) (t := .int) (by with_unfolding_all rfl) rfl (by with_unfolding_all rfl) rfl
set_option maxRecDepth 20000 in
theorem b_211_48 {d nS : Nat} {x1 x2 x3 : Int32} {M : am_M} {Q : Option Value → am_H → Prop} : am_Wp d 211 48 [.ref 205, .int x1, .int x2, .int x3] [] (hp nS M) Q = if ¬ x3 = 0 then am_Wp d 211 66 [.ref 205, .int x1, .int x2, .int x3] [] (hp nS (am_up M 205 30 ((M 205 30) + 1))) Q else am_Wp d 211 62 [.ref 205, .int x1, .int x2, .int x3] [] (hp nS (am_up M 205 30 ((M 205 30) + 1))) Q := by
  refine (eq_run 7 (q := (59, [.ref 205, .int x1, .int x2, .int x3], [.int x3], hp nS (am_up M 205 30 ((M 205 30) + 1)))) (by with_unfolding_all rfl)).trans ?_
  exact eq_if_ne (by with_unfolding_all rfl)
set_option maxRecDepth 20000 in
theorem b_211_62 {d nS : Nat} {x1 x2 x3 : Int32} {M : am_M} {Q : Option Value → am_H → Prop} : am_Wp d 211 62 [.ref 205, .int x1, .int x2, .int x3] [] (hp nS M) Q = am_Wp d 211 66 [.ref 205, .int (x1 + 1), .int x2, .int x3] [] (hp nS M) Q := by
  exact eq_run 4 (q := (66, [.ref 205, .int (x1 + 1), .int x2, .int x3], [], hp nS M)) (by with_unfolding_all rfl)
set_option maxRecDepth 20000 in
theorem b_211_66 {d nS : Nat} {x1 x2 x3 : Int32} {M : am_M} {Q : Option Value → am_H → Prop} : am_Wp d 211 66 [.ref 205, .int x1, .int x2, .int x3] [] (hp nS M) Q = if x3 = 0 then am_Wp d 211 76 [.ref 205, .int x1, .int x2, .int x3] [.ref 205] (hp nS M) Q else am_Wp d 211 71 [.ref 205, .int x1, .int x2, .int x3] [.ref 205] (hp nS M) Q := by
  refine (eq_run 2 (q := (68, [.ref 205, .int x1, .int x2, .int x3], [.int x3, .ref 205], hp nS M)) (by with_unfolding_all rfl)).trans ?_
  exact eq_if_eq (by with_unfolding_all rfl)
set_option maxRecDepth 20000 in
theorem b_211_71 {d nS : Nat} {x1 x2 x3 : Int32} {M : am_M} {Q : Option Value → am_H → Prop} : am_Wp d 211 71 [.ref 205, .int x1, .int x2, .int x3] [.ref 205] (hp nS M) Q = am_Wp d 211 78 [.ref 205, .int x1, .int x2, .int x3] [.int 9, .ref 205] (hp nS M) Q := by
  exact eq_run 2 (q := (78, [.ref 205, .int x1, .int x2, .int x3], [.int 9, .ref 205], hp nS M)) (by with_unfolding_all rfl)
set_option maxRecDepth 20000 in
theorem b_211_76 {d nS : Nat} {x1 x2 x3 : Int32} {M : am_M} {Q : Option Value → am_H → Prop} : am_Wp d 211 76 [.ref 205, .int x1, .int x2, .int x3] [.ref 205] (hp nS M) Q = am_Wp d 211 78 [.ref 205, .int x1, .int x2, .int x3] [.int 12, .ref 205] (hp nS M) Q := by
  exact eq_run 1 (q := (78, [.ref 205, .int x1, .int x2, .int x3], [.int 12, .ref 205], hp nS M)) (by with_unfolding_all rfl)
set_option maxRecDepth 20000 in
theorem b_211_78 {d nS : Nat} {x1 x2 x3 s1 : Int32} {M : am_M} {Q : Option Value → am_H → Prop} : am_Wp (d + 1) 211 78 [.ref 205, .int x1, .int x2, .int x3] [.int s1, .ref 205] (hp nS M) Q = am_Wp d 212 0 [.ref 205, .int s1] [] (hp nS M) (fun v h1 => am_Wp (d + 1) 211 81 [.ref 205, .int x1, .int x2, .int x3] (am_ans v []) h1 Q) := by
  exact eq_call2 (e := (.invokevirtual 243, 3, 0, 212, 296)) (as := [.ref 205, .int s1]) (r := []) (n := 2) (m := 2) (by with_unfolding_all rfl) rfl (by decide) (by with_unfolding_all rfl) (by decide) (by with_unfolding_all rfl) ⟨fun _ => am_rec_ok (c := 14) (by with_unfolding_all rfl) (by decide +kernel), fun z => by simp at z⟩
set_option maxRecDepth 20000 in
theorem b_211_81 {d nS : Nat} {x1 x2 x3 : Int32} {M : am_M} {Q : Option Value → am_H → Prop} : am_Wp (d + 1) 211 81 [.ref 205, .int x1, .int x2, .int x3] [] (hp nS M) Q = am_Wp d 185 0 [.ref 205, .retAddr 0] [] (hp nS M) (fun v h1 => am_Wp (d + 1) 211 85 [.ref 205, .int x1, .int x2, .int x3] (am_ans v []) h1 Q) := by
  refine (eq_run 1 (q := (82, [.ref 205, .int x1, .int x2, .int x3], [.ref 205], hp nS M)) (by with_unfolding_all rfl)).trans ?_
  exact eq_call2 (e := (.invokevirtual 218, 3, 0, 185, 290)) (as := [.ref 205]) (r := []) (n := 1) (m := 2) (by with_unfolding_all rfl) rfl (by decide) (by with_unfolding_all rfl) (by decide) (by with_unfolding_all rfl) ⟨fun _ => am_rec_ok (c := 14) (by with_unfolding_all rfl) (by decide +kernel), fun z => by simp at z⟩
set_option maxRecDepth 20000 in
theorem b_211_85 {d nS : Nat} {x1 x2 x3 : Int32} {M : am_M} {Q : Option Value → am_H → Prop} : am_Wp d 211 85 [.ref 205, .int x1, .int x2, .int x3] [] (hp nS M) Q = am_Wp d 211 9 [.ref 205, .int x1, .int x2, .int x3] [] (hp nS M) Q := by
  exact eq_run 1 (q := (9, [.ref 205, .int x1, .int x2, .int x3], [], hp nS M)) (by with_unfolding_all rfl)
set_option maxRecDepth 20000 in
theorem b_211_88 {d nS : Nat} {x1 x2 x3 : Int32} {M : am_M} {Q : Option Value → am_H → Prop} : am_Wp (d + 1) 211 88 [.ref 205, .int x1, .int x2, .int x3] [] (hp nS M) Q = am_Wp d 213 0 [.ref 205, .retAddr 0] [] (hp nS M) (fun v h1 => am_Wp (d + 1) 211 92 [.ref 205, .int x1, .int x2, .int x3] (am_ans v []) h1 Q) := by
  refine (eq_run 1 (q := (89, [.ref 205, .int x1, .int x2, .int x3], [.ref 205], hp nS M)) (by with_unfolding_all rfl)).trans ?_
  exact eq_call2 (e := (.invokevirtual 246, 3, 0, 213, 297)) (as := [.ref 205]) (r := []) (n := 1) (m := 2) (by with_unfolding_all rfl) rfl (by decide) (by with_unfolding_all rfl) (by decide) (by with_unfolding_all rfl) ⟨fun _ => am_rec_ok (c := 14) (by with_unfolding_all rfl) (by decide +kernel), fun z => by simp at z⟩
set_option maxRecDepth 20000 in
theorem b_211_92 {d nS : Nat} {x1 x2 x3 s0 : Int32} {M : am_M} {Q : Option Value → am_H → Prop} : am_Wp d 211 92 [.ref 205, .int x1, .int x2, .int x3] [.int s0] (hp nS M) Q = if ¬ s0 = (-1) then am_Wp d 211 98 [.ref 205, .int x1, .int x2, .int x3] [] (hp nS M) Q else am_Wp d 211 96 [.ref 205, .int x1, .int x2, .int x3] [] (hp nS M) Q := by
  refine (eq_run 1 (q := (93, [.ref 205, .int x1, .int x2, .int x3], [.int (-1), .int s0], hp nS M)) (by with_unfolding_all rfl)).trans ?_
  exact eq_cmp_ne (by with_unfolding_all rfl)
set_option maxRecDepth 20000 in
theorem b_211_96 {d nS : Nat} {x1 x2 x3 : Int32} {M : am_M} {Q : Option Value → am_H → Prop} : am_Wp d 211 96 [.ref 205, .int x1, .int x2, .int x3] [] (hp nS M) Q = Q (some (.int (-1))) (hp nS M) := by
  refine (eq_run 1 (q := (97, [.ref 205, .int x1, .int x2, .int x3], [.int (-1)], hp nS M)) (by with_unfolding_all rfl)).trans ?_
  exact eq_retI2 (e := (.ireturn, 1, 0, 0, 0)) (t := .int) (by with_unfolding_all rfl) rfl (by with_unfolding_all rfl) rfl
set_option maxRecDepth 20000 in
theorem b_211_98 {d nS : Nat} {x1 x2 x3 : Int32} {M : am_M} {Q : Option Value → am_H → Prop} : am_Wp (d + 1) 211 98 [.ref 205, .int x1, .int x2, .int x3] [] (hp nS M) Q = am_Wp d 214 0 [.ref 205, .int 9] [] (hp nS M) (fun v h1 => am_Wp (d + 1) 211 104 [.ref 205, .int x1, .int x2, .int x3] (am_ans v []) h1 Q) := by
  refine (eq_run 2 (q := (101, [.ref 205, .int x1, .int x2, .int x3], [.int 9, .ref 205], hp nS M)) (by with_unfolding_all rfl)).trans ?_
  exact eq_call2 (e := (.invokevirtual 249, 3, 0, 214, 298)) (as := [.ref 205, .int 9]) (r := []) (n := 2) (m := 2) (by with_unfolding_all rfl) rfl (by decide) (by with_unfolding_all rfl) (by decide) (by with_unfolding_all rfl) ⟨fun _ => am_rec_ok (c := 14) (by with_unfolding_all rfl) (by decide +kernel), fun z => by simp at z⟩
set_option maxRecDepth 20000 in
theorem b_211_104 {d nS : Nat} {x1 x2 x3 : Int32} {M : am_M} {Q : Option Value → am_H → Prop} : am_Wp d 211 104 [.ref 205, .int x1, .int x2, .int x3] [] (hp nS M) Q = am_Wp d 211 9 [.ref 205, .int x1, .int 0, .int x3] [] (hp nS M) Q := by
  exact eq_run 3 (q := (9, [.ref 205, .int x1, .int 0, .int x3], [], hp nS M)) (by with_unfolding_all rfl)
set_option maxRecDepth 20000 in
theorem b_211_109 {d nS : Nat} {x1 x2 : Int32} {zx3 : Value} {M : am_M} {Q : Option Value → am_H → Prop} : am_Wp (d + 1) 211 109 [.ref 205, .int x1, .int x2, zx3] [] (hp nS M) Q = am_Wp d 192 0 [.ref 205, .int 5] [] (hp nS M) (fun v h1 => am_Wp (d + 1) 211 114 [.ref 205, .int x1, .int x2, zx3] (am_ans v []) h1 Q) := by
  refine (eq_run 2 (q := (111, [.ref 205, .int x1, .int x2, zx3], [.int 5, .ref 205], hp nS M)) (by with_unfolding_all rfl)).trans ?_
  exact eq_call2 (e := (.invokevirtual 240, 3, 0, 192, 295)) (as := [.ref 205, .int 5]) (r := []) (n := 2) (m := 2) (by with_unfolding_all rfl) rfl (by decide) (by with_unfolding_all rfl) (by decide) (by with_unfolding_all rfl) ⟨fun _ => am_rec_ok (c := 14) (by with_unfolding_all rfl) (by decide +kernel), fun z => by simp at z⟩
set_option maxRecDepth 20000 in
theorem b_211_114 {d nS : Nat} {x1 x2 s0 : Int32} {zx3 : Value} {M : am_M} {Q : Option Value → am_H → Prop} : am_Wp d 211 114 [.ref 205, .int x1, .int x2, zx3] [.int s0] (hp nS M) Q = if s0 = 0 then am_Wp d 211 138 [.ref 205, .int x1, .int x2, zx3] [] (hp nS M) Q else am_Wp d 211 117 [.ref 205, .int x1, .int x2, zx3] [] (hp nS M) Q := by
  exact eq_if_eq (by with_unfolding_all rfl)
set_option maxRecDepth 20000 in
theorem b_211_117 {d nS : Nat} {x1 x2 : Int32} {zx3 : Value} {M : am_M} {Q : Option Value → am_H → Prop} : am_Wp (d + 1) 211 117 [.ref 205, .int x1, .int x2, zx3] [] (hp nS M) Q = am_Wp d 214 0 [.ref 205, .int 10] [] (hp nS M) (fun v h1 => am_Wp (d + 1) 211 123 [.ref 205, .int x1, .int x2, zx3] (am_ans v []) h1 Q) := by
  refine (eq_run 2 (q := (120, [.ref 205, .int x1, .int x2, zx3], [.int 10, .ref 205], hp nS M)) (by with_unfolding_all rfl)).trans ?_
  exact eq_call2 (e := (.invokevirtual 249, 3, 0, 214, 298)) (as := [.ref 205, .int 10]) (r := []) (n := 2) (m := 2) (by with_unfolding_all rfl) rfl (by decide) (by with_unfolding_all rfl) (by decide) (by with_unfolding_all rfl) ⟨fun _ => am_rec_ok (c := 14) (by with_unfolding_all rfl) (by decide +kernel), fun z => by simp at z⟩
set_option maxRecDepth 20000 in
theorem b_211_123 {d nS : Nat} {x1 x2 : Int32} {zx3 : Value} {M : am_M} {Q : Option Value → am_H → Prop} : am_Wp (d + 1) 211 123 [.ref 205, .int x1, .int x2, zx3] [] (hp nS M) Q = am_Wp d 212 0 [.ref 205, .int 10] [] (hp nS M) (fun v h1 => am_Wp (d + 1) 211 129 [.ref 205, .int x1, .int x2, zx3] (am_ans v []) h1 Q) := by
  refine (eq_run 2 (q := (126, [.ref 205, .int x1, .int x2, zx3], [.int 10, .ref 205], hp nS M)) (by with_unfolding_all rfl)).trans ?_
  exact eq_call2 (e := (.invokevirtual 243, 3, 0, 212, 296)) (as := [.ref 205, .int 10]) (r := []) (n := 2) (m := 2) (by with_unfolding_all rfl) rfl (by decide) (by with_unfolding_all rfl) (by decide) (by with_unfolding_all rfl) ⟨fun _ => am_rec_ok (c := 14) (by with_unfolding_all rfl) (by decide +kernel), fun z => by simp at z⟩
set_option maxRecDepth 20000 in
theorem b_211_129 {d nS : Nat} {x1 x2 : Int32} {zx3 : Value} {M : am_M} {Q : Option Value → am_H → Prop} : am_Wp (d + 1) 211 129 [.ref 205, .int x1, .int x2, zx3] [] (hp nS M) Q = am_Wp d 185 0 [.ref 205, .retAddr 0] [] (hp nS M) (fun v h1 => am_Wp (d + 1) 211 133 [.ref 205, .int x1, .int x2, zx3] (am_ans v []) h1 Q) := by
  refine (eq_run 1 (q := (130, [.ref 205, .int x1, .int x2, zx3], [.ref 205], hp nS M)) (by with_unfolding_all rfl)).trans ?_
  exact eq_call2 (e := (.invokevirtual 218, 3, 0, 185, 290)) (as := [.ref 205]) (r := []) (n := 1) (m := 2) (by with_unfolding_all rfl) rfl (by decide) (by with_unfolding_all rfl) (by decide) (by with_unfolding_all rfl) ⟨fun _ => am_rec_ok (c := 14) (by with_unfolding_all rfl) (by decide +kernel), fun z => by simp at z⟩
set_option maxRecDepth 20000 in
theorem b_211_133 {d nS : Nat} {x1 x2 : Int32} {zx3 : Value} {M : am_M} {Q : Option Value → am_H → Prop} : am_Wp d 211 133 [.ref 205, .int x1, .int x2, zx3] [] (hp nS M) Q = am_Wp d 211 9 [.ref 205, .int x1, .int 1, zx3] [] (hp nS M) Q := by
  exact eq_run 3 (q := (9, [.ref 205, .int x1, .int 1, zx3], [], hp nS M)) (by with_unfolding_all rfl)
set_option maxRecDepth 20000 in
theorem b_211_138 {d nS : Nat} {x1 x2 : Int32} {zx3 : Value} {M : am_M} {Q : Option Value → am_H → Prop} : am_Wp (d + 1) 211 138 [.ref 205, .int x1, .int x2, zx3] [] (hp nS M) Q = am_Wp d 192 0 [.ref 205, .int 4] [] (hp nS M) (fun v h1 => am_Wp (d + 1) 211 143 [.ref 205, .int x1, .int x2, zx3] (am_ans v []) h1 Q) := by
  refine (eq_run 2 (q := (140, [.ref 205, .int x1, .int x2, zx3], [.int 4, .ref 205], hp nS M)) (by with_unfolding_all rfl)).trans ?_
  exact eq_call2 (e := (.invokevirtual 240, 3, 0, 192, 295)) (as := [.ref 205, .int 4]) (r := []) (n := 2) (m := 2) (by with_unfolding_all rfl) rfl (by decide) (by with_unfolding_all rfl) (by decide) (by with_unfolding_all rfl) ⟨fun _ => am_rec_ok (c := 14) (by with_unfolding_all rfl) (by decide +kernel), fun z => by simp at z⟩
set_option maxRecDepth 20000 in
theorem b_211_143 {d nS : Nat} {x1 x2 s0 : Int32} {zx3 : Value} {M : am_M} {Q : Option Value → am_H → Prop} : am_Wp d 211 143 [.ref 205, .int x1, .int x2, zx3] [.int s0] (hp nS M) Q = if s0 = 0 then am_Wp d 211 173 [.ref 205, .int x1, .int x2, zx3] [] (hp nS M) Q else am_Wp d 211 146 [.ref 205, .int x1, .int x2, zx3] [] (hp nS M) Q := by
  exact eq_if_eq (by with_unfolding_all rfl)
set_option maxRecDepth 20000 in
theorem b_211_146 {d nS : Nat} {x1 x2 : Int32} {zx3 : Value} {M : am_M} {Q : Option Value → am_H → Prop} : am_Wp (d + 1) 211 146 [.ref 205, .int x1, .int x2, zx3] [] (hp nS M) Q = am_Wp d 214 0 [.ref 205, .int 10] [] (hp nS M) (fun v h1 => am_Wp (d + 1) 211 152 [.ref 205, .int x1, .int x2, zx3] (am_ans v []) h1 Q) := by
  refine (eq_run 2 (q := (149, [.ref 205, .int x1, .int x2, zx3], [.int 10, .ref 205], hp nS M)) (by with_unfolding_all rfl)).trans ?_
  exact eq_call2 (e := (.invokevirtual 249, 3, 0, 214, 298)) (as := [.ref 205, .int 10]) (r := []) (n := 2) (m := 2) (by with_unfolding_all rfl) rfl (by decide) (by with_unfolding_all rfl) (by decide) (by with_unfolding_all rfl) ⟨fun _ => am_rec_ok (c := 14) (by with_unfolding_all rfl) (by decide +kernel), fun z => by simp at z⟩
set_option maxRecDepth 20000 in
theorem b_211_152 {d nS : Nat} {x1 x2 : Int32} {zx3 : Value} {M : am_M} {Q : Option Value → am_H → Prop} : am_Wp (d + 1) 211 152 [.ref 205, .int x1, .int x2, zx3] [] (hp nS M) Q = am_Wp d 214 0 [.ref 205, .int 11] [] (hp nS M) (fun v h1 => am_Wp (d + 1) 211 158 [.ref 205, .int x1, .int x2, zx3] (am_ans v []) h1 Q) := by
  refine (eq_run 2 (q := (155, [.ref 205, .int x1, .int x2, zx3], [.int 11, .ref 205], hp nS M)) (by with_unfolding_all rfl)).trans ?_
  exact eq_call2 (e := (.invokevirtual 249, 3, 0, 214, 298)) (as := [.ref 205, .int 11]) (r := []) (n := 2) (m := 2) (by with_unfolding_all rfl) rfl (by decide) (by with_unfolding_all rfl) (by decide) (by with_unfolding_all rfl) ⟨fun _ => am_rec_ok (c := 14) (by with_unfolding_all rfl) (by decide +kernel), fun z => by simp at z⟩
set_option maxRecDepth 20000 in
theorem b_211_158 {d nS : Nat} {x1 x2 : Int32} {zx3 : Value} {M : am_M} {Q : Option Value → am_H → Prop} : am_Wp (d + 1) 211 158 [.ref 205, .int x1, .int x2, zx3] [] (hp nS M) Q = am_Wp d 212 0 [.ref 205, .int 11] [] (hp nS M) (fun v h1 => am_Wp (d + 1) 211 164 [.ref 205, .int x1, .int x2, zx3] (am_ans v []) h1 Q) := by
  refine (eq_run 2 (q := (161, [.ref 205, .int x1, .int x2, zx3], [.int 11, .ref 205], hp nS M)) (by with_unfolding_all rfl)).trans ?_
  exact eq_call2 (e := (.invokevirtual 243, 3, 0, 212, 296)) (as := [.ref 205, .int 11]) (r := []) (n := 2) (m := 2) (by with_unfolding_all rfl) rfl (by decide) (by with_unfolding_all rfl) (by decide) (by with_unfolding_all rfl) ⟨fun _ => am_rec_ok (c := 14) (by with_unfolding_all rfl) (by decide +kernel), fun z => by simp at z⟩
set_option maxRecDepth 20000 in
theorem b_211_164 {d nS : Nat} {x1 x2 : Int32} {zx3 : Value} {M : am_M} {Q : Option Value → am_H → Prop} : am_Wp (d + 1) 211 164 [.ref 205, .int x1, .int x2, zx3] [] (hp nS M) Q = am_Wp d 185 0 [.ref 205, .retAddr 0] [] (hp nS M) (fun v h1 => am_Wp (d + 1) 211 168 [.ref 205, .int x1, .int x2, zx3] (am_ans v []) h1 Q) := by
  refine (eq_run 1 (q := (165, [.ref 205, .int x1, .int x2, zx3], [.ref 205], hp nS M)) (by with_unfolding_all rfl)).trans ?_
  exact eq_call2 (e := (.invokevirtual 218, 3, 0, 185, 290)) (as := [.ref 205]) (r := []) (n := 1) (m := 2) (by with_unfolding_all rfl) rfl (by decide) (by with_unfolding_all rfl) (by decide) (by with_unfolding_all rfl) ⟨fun _ => am_rec_ok (c := 14) (by with_unfolding_all rfl) (by decide +kernel), fun z => by simp at z⟩
set_option maxRecDepth 20000 in
theorem b_211_168 {d nS : Nat} {x1 x2 : Int32} {zx3 : Value} {M : am_M} {Q : Option Value → am_H → Prop} : am_Wp d 211 168 [.ref 205, .int x1, .int x2, zx3] [] (hp nS M) Q = am_Wp d 211 9 [.ref 205, .int x1, .int 1, zx3] [] (hp nS M) Q := by
  exact eq_run 3 (q := (9, [.ref 205, .int x1, .int 1, zx3], [], hp nS M)) (by with_unfolding_all rfl)
set_option maxRecDepth 20000 in
theorem b_211_173 {d nS : Nat} {x1 x2 : Int32} {zx3 : Value} {M : am_M} {Q : Option Value → am_H → Prop} : am_Wp (d + 1) 211 173 [.ref 205, .int x1, .int x2, zx3] [] (hp nS M) Q = am_Wp d 214 0 [.ref 205, .int 10] [] (hp nS M) (fun v h1 => am_Wp (d + 1) 211 179 [.ref 205, .int x1, .int x2, zx3] (am_ans v []) h1 Q) := by
  refine (eq_run 2 (q := (176, [.ref 205, .int x1, .int x2, zx3], [.int 10, .ref 205], hp nS M)) (by with_unfolding_all rfl)).trans ?_
  exact eq_call2 (e := (.invokevirtual 249, 3, 0, 214, 298)) (as := [.ref 205, .int 10]) (r := []) (n := 2) (m := 2) (by with_unfolding_all rfl) rfl (by decide) (by with_unfolding_all rfl) (by decide) (by with_unfolding_all rfl) ⟨fun _ => am_rec_ok (c := 14) (by with_unfolding_all rfl) (by decide +kernel), fun z => by simp at z⟩
set_option maxRecDepth 20000 in
theorem b_211_179 {d nS : Nat} {x1 x2 : Int32} {zx3 : Value} {M : am_M} {Q : Option Value → am_H → Prop} : am_Wp (d + 1) 211 179 [.ref 205, .int x1, .int x2, zx3] [] (hp nS M) Q = am_Wp d 214 0 [.ref 205, .int 11] [] (hp nS M) (fun v h1 => am_Wp (d + 1) 211 185 [.ref 205, .int x1, .int x2, zx3] (am_ans v []) h1 Q) := by
  refine (eq_run 2 (q := (182, [.ref 205, .int x1, .int x2, zx3], [.int 11, .ref 205], hp nS M)) (by with_unfolding_all rfl)).trans ?_
  exact eq_call2 (e := (.invokevirtual 249, 3, 0, 214, 298)) (as := [.ref 205, .int 11]) (r := []) (n := 2) (m := 2) (by with_unfolding_all rfl) rfl (by decide) (by with_unfolding_all rfl) (by decide) (by with_unfolding_all rfl) ⟨fun _ => am_rec_ok (c := 14) (by with_unfolding_all rfl) (by decide +kernel), fun z => by simp at z⟩
set_option maxRecDepth 20000 in
theorem b_211_185 {d nS : Nat} {x1 x2 : Int32} {zx3 : Value} {M : am_M} {Q : Option Value → am_H → Prop} : am_Wp d 211 185 [.ref 205, .int x1, .int x2, zx3] [] (hp nS M) Q = if ¬ x1 = 0 then am_Wp d 211 191 [.ref 205, .int x1, .int x2, zx3] [] (hp nS M) Q else am_Wp d 211 189 [.ref 205, .int x1, .int x2, zx3] [] (hp nS M) Q := by
  refine (eq_run 1 (q := (186, [.ref 205, .int x1, .int x2, zx3], [.int x1], hp nS M)) (by with_unfolding_all rfl)).trans ?_
  exact eq_if_ne (by with_unfolding_all rfl)
set_option maxRecDepth 20000 in
theorem b_211_189 {d nS : Nat} {x1 x2 : Int32} {zx3 : Value} {M : am_M} {Q : Option Value → am_H → Prop} : am_Wp d 211 189 [.ref 205, .int x1, .int x2, zx3] [] (hp nS M) Q = Q (some (.int 0)) (hp nS M) := by
  refine (eq_run 1 (q := (190, [.ref 205, .int x1, .int x2, zx3], [.int 0], hp nS M)) (by with_unfolding_all rfl)).trans ?_
  exact eq_retI2 (e := (.ireturn, 1, 0, 0, 0)) (t := .int) (by with_unfolding_all rfl) rfl (by with_unfolding_all rfl) rfl
set_option maxRecDepth 20000 in
theorem b_211_191 {d nS : Nat} {x1 x2 : Int32} {zx3 : Value} {M : am_M} {Q : Option Value → am_H → Prop} : am_Wp (d + 1) 211 191 [.ref 205, .int x1, .int x2, zx3] [] (hp nS M) Q = am_Wp d 199 0 [.ref 205, .int 41] [] (hp nS M) (fun v h1 => am_Wp (d + 1) 211 197 [.ref 205, .int x1, .int x2, zx3] (am_ans v []) h1 Q) := by
  refine (eq_run 2 (q := (194, [.ref 205, .int x1, .int x2, zx3], [.int 41, .ref 205], hp nS M)) (by with_unfolding_all rfl)).trans ?_
  exact eq_call2 (e := (.invokevirtual 225, 3, 0, 199, 292)) (as := [.ref 205, .int 41]) (r := []) (n := 2) (m := 2) (by with_unfolding_all rfl) rfl (by decide) (by with_unfolding_all rfl) (by decide) (by with_unfolding_all rfl) ⟨fun _ => am_rec_ok (c := 14) (by with_unfolding_all rfl) (by decide +kernel), fun z => by simp at z⟩
set_option maxRecDepth 20000 in
theorem b_211_197 {d nS : Nat} {x1 x2 s0 : Int32} {zx3 : Value} {M : am_M} {Q : Option Value → am_H → Prop} : am_Wp d 211 197 [.ref 205, .int x1, .int x2, zx3] [.int s0] (hp nS M) Q = if ¬ s0 = 0 then am_Wp d 211 206 [.ref 205, .int x1, .int x2, zx3] [] (hp nS M) Q else am_Wp d 211 200 [.ref 205, .int x1, .int x2, zx3] [] (hp nS M) Q := by
  exact eq_if_ne (by with_unfolding_all rfl)
set_option maxRecDepth 20000 in
theorem b_211_200 {d nS : Nat} {x1 x2 : Int32} {zx3 : Value} {M : am_M} {Q : Option Value → am_H → Prop} : am_Wp (d + 1) 211 200 [.ref 205, .int x1, .int x2, zx3] [] (hp nS M) Q = am_Wp d 193 0 [.ref 205, .int 1] [] (hp nS M) (fun v h1 => am_Wp (d + 1) 211 205 [.ref 205, .int x1, .int x2, zx3] (am_ans v []) h1 Q) := by
  refine (eq_run 2 (q := (202, [.ref 205, .int x1, .int x2, zx3], [.int 1, .ref 205], hp nS M)) (by with_unfolding_all rfl)).trans ?_
  exact eq_call2 (e := (.invokevirtual 211, 3, 0, 193, 288)) (as := [.ref 205, .int 1]) (r := []) (n := 2) (m := 2) (by with_unfolding_all rfl) rfl (by decide) (by with_unfolding_all rfl) (by decide) (by with_unfolding_all rfl) ⟨fun _ => am_rec_ok (c := 14) (by with_unfolding_all rfl) (by decide +kernel), fun z => by simp at z⟩
set_option maxRecDepth 20000 in
theorem b_211_205 {d nS : Nat} {x1 x2 s0 : Int32} {zx3 : Value} {M : am_M} {Q : Option Value → am_H → Prop} : am_Wp d 211 205 [.ref 205, .int x1, .int x2, zx3] [.int s0] (hp nS M) Q = Q (some (.int s0)) (hp nS M) := by
  exact eq_retI2 (e := (.ireturn, 1, 0, 0, 0)) (t := .int) (by with_unfolding_all rfl) rfl (by with_unfolding_all rfl) rfl
set_option maxRecDepth 20000 in
theorem b_211_206 {d nS : Nat} {x1 x2 : Int32} {zx3 : Value} {M : am_M} {Q : Option Value → am_H → Prop} : am_Wp (d + 1) 211 206 [.ref 205, .int x1, .int x2, zx3] [] (hp nS M) Q = am_Wp d 214 0 [.ref 205, .int 9] [] (hp nS (am_up (am_up M 205 32 ((M 205 32) - 1)) 205 30 (((am_up M 205 32 ((M 205 32) - 1)) 205 30) - 1))) (fun v h1 => am_Wp (d + 1) 211 236 [.ref 205, .int (x1 - 1), .int x2, zx3] (am_ans v []) h1 Q) := by
  refine (eq_run 18 (q := (233, [.ref 205, .int (x1 - 1), .int x2, zx3], [.int 9, .ref 205], hp nS (am_up (am_up M 205 32 ((M 205 32) - 1)) 205 30 (((am_up M 205 32 ((M 205 32) - 1)) 205 30) - 1)))) (by with_unfolding_all rfl)).trans ?_
  exact eq_call2 (e := (.invokevirtual 249, 3, 0, 214, 298)) (as := [.ref 205, .int 9]) (r := []) (n := 2) (m := 2) (by with_unfolding_all rfl) rfl (by decide) (by with_unfolding_all rfl) (by decide) (by with_unfolding_all rfl) ⟨fun _ => am_rec_ok (c := 14) (by with_unfolding_all rfl) (by decide +kernel), fun z => by simp at z⟩
set_option maxRecDepth 20000 in
theorem b_211_236 {d nS : Nat} {x1 x2 : Int32} {zx3 : Value} {M : am_M} {Q : Option Value → am_H → Prop} : am_Wp (d + 1) 211 236 [.ref 205, .int x1, .int x2, zx3] [] (hp nS M) Q = am_Wp d 185 0 [.ref 205, .retAddr 0] [] (hp nS M) (fun v h1 => am_Wp (d + 1) 211 240 [.ref 205, .int x1, .int x2, zx3] (am_ans v []) h1 Q) := by
  refine (eq_run 1 (q := (237, [.ref 205, .int x1, .int x2, zx3], [.ref 205], hp nS M)) (by with_unfolding_all rfl)).trans ?_
  exact eq_call2 (e := (.invokevirtual 218, 3, 0, 185, 290)) (as := [.ref 205]) (r := []) (n := 1) (m := 2) (by with_unfolding_all rfl) rfl (by decide) (by with_unfolding_all rfl) (by decide) (by with_unfolding_all rfl) ⟨fun _ => am_rec_ok (c := 14) (by with_unfolding_all rfl) (by decide +kernel), fun z => by simp at z⟩
set_option maxRecDepth 20000 in
theorem b_211_240 {d nS : Nat} {x1 x2 : Int32} {zx3 : Value} {M : am_M} {Q : Option Value → am_H → Prop} : am_Wp d 211 240 [.ref 205, .int x1, .int x2, zx3] [] (hp nS M) Q = am_Wp d 211 9 [.ref 205, .int x1, .int x2, zx3] [] (hp nS M) Q := by
  exact eq_run 1 (q := (9, [.ref 205, .int x1, .int x2, zx3], [], hp nS M)) (by with_unfolding_all rfl)
