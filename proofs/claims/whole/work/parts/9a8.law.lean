/-! THE LAW: blocks of its loop -/
set_option maxRecDepth 20000 in
theorem b_0_18 {d nS : Nat} {x3 : Int32} {M : am_M} {Q : Option Value → am_H → Prop} : am_Wp d 0 18 [.ref 0, .ref 16, .ref 205, .int x3] [] (hp nS M) Q = if ((Int32.ofNat nS) - 6) < x3 then am_Wp d 0 1416 [.ref 0, .ref 16, .ref 205, .int x3] [] (hp nS M) Q else am_Wp d 0 27 [.ref 0, .ref 16, .ref 205, .int x3] [] (hp nS M) Q := by
  refine (eq_step (e := (.iload_n 3, 1, 0, 0, 0)) (q := (19, [.ref 0, .ref 16, .ref 205, .int x3], [.int x3], hp nS M)) (am_cF_to (by with_unfolding_all rfl)) rfl (by with_unfolding_all rfl)).trans ?_
  show am_Wp _ 0 19 _ _ _ _ = _
  refine (eq_step (e := (.aload_n 0, 1, 0, 0, 0)) (q := (20, [.ref 0, .ref 16, .ref 205, .int x3], [.ref 0, .int x3], hp nS M)) (am_cF_to (by with_unfolding_all rfl)) rfl (by with_unfolding_all rfl)).trans ?_
  show am_Wp _ 0 20 _ _ _ _ = _
  refine (eq_step (e := (.arraylength, 1, 0, 0, 0)) (q := (21, [.ref 0, .ref 16, .ref 205, .int x3], [.int (Int32.ofNat nS), .int x3], hp nS M)) (am_cF_to (by with_unfolding_all rfl)) rfl (by with_unfolding_all rfl)).trans ?_
  show am_Wp _ 0 21 _ _ _ _ = _
  refine (eq_step (e := (.bipush 6, 2, 0, 0, 0)) (q := (23, [.ref 0, .ref 16, .ref 205, .int x3], [.int 6, .int (Int32.ofNat nS), .int x3], hp nS M)) (am_cF_to (by with_unfolding_all rfl)) rfl (by with_unfolding_all rfl)).trans ?_
  show am_Wp _ 0 23 _ _ _ _ = _
  refine (eq_step (e := (.isub, 1, 0, 0, 0)) (q := (24, [.ref 0, .ref 16, .ref 205, .int x3], [.int ((Int32.ofNat nS) - 6), .int x3], hp nS M)) (am_cF_to (by with_unfolding_all rfl)) rfl (by with_unfolding_all rfl)).trans ?_
  show am_Wp _ 0 24 _ _ _ _ = _
  exact eq_cmp_gt (by with_unfolding_all rfl)
set_option maxRecDepth 20000 in
theorem b_0_27 {d nS : Nat} {x3 : Int32} {M : am_M} {Q : Option Value → am_H → Prop} (h1 : vp_in x3 nS) : am_Wp d 0 27 [.ref 0, .ref 16, .ref 205, .int x3] [] (hp nS M) Q = am_Wp d 0 33 [.ref 0, .ref 16, .ref 205, .int x3] [.int ((M 0 x3.toNatClampNeg) &&& 63)] (hp nS M) Q := by
  refine (eq_step (e := (.aload_n 0, 1, 0, 0, 0)) (q := (28, [.ref 0, .ref 16, .ref 205, .int x3], [.ref 0], hp nS M)) (am_cF_to (by with_unfolding_all rfl)) rfl (by with_unfolding_all rfl)).trans ?_
  show am_Wp _ 0 28 _ _ _ _ = _
  refine (eq_step (e := (.iload_n 3, 1, 0, 0, 0)) (q := (29, [.ref 0, .ref 16, .ref 205, .int x3], [.int x3, .ref 0], hp nS M)) (am_cF_to (by with_unfolding_all rfl)) rfl (by with_unfolding_all rfl)).trans ?_
  show am_Wp _ 0 29 _ _ _ _ = _
  refine (eq_ald (e := (.iaload, 1, 0, 0, 0)) (by with_unfolding_all rfl) rfl (n := nS) (by with_unfolding_all rfl) h1).trans ?_
  show am_Wp _ 0 30 _ _ _ _ = _
  refine (eq_step (e := (.bipush 63, 2, 0, 0, 0)) (q := (32, [.ref 0, .ref 16, .ref 205, .int x3], [.int 63, .int (M 0 x3.toNatClampNeg)], hp nS M)) (am_cF_to (by with_unfolding_all rfl)) rfl (by with_unfolding_all rfl)).trans ?_
  show am_Wp _ 0 32 _ _ _ _ = _
  exact eq_step (e := (.iand, 1, 0, 0, 0)) (q := (33, [.ref 0, .ref 16, .ref 205, .int x3], [.int ((M 0 x3.toNatClampNeg) &&& 63)], hp nS M)) (am_cF_to (by with_unfolding_all rfl)) rfl (by with_unfolding_all rfl)
set_option maxRecDepth 20000 in
theorem b_0_200 {d nS : Nat} {x3 : Int32} {M : am_M} {Q : Option Value → am_H → Prop} (h1 : vp_in (x3 + 1) nS) : am_Wp (d + 1) 0 200 [.ref 0, .ref 16, .ref 205, .int x3] [] (hp nS M) Q = am_Wp d 123 0 [.ref 16, .int (M 0 (x3 + 1).toNatClampNeg), .retAddr 0] [] (hp nS M) (fun v h1 => am_Wp (d + 1) 0 209 [.ref 0, .ref 16, .ref 205, .int x3] (am_ans v []) h1 Q) := by
  refine (eq_step (e := (.aload_n 1, 1, 0, 0, 0)) (q := (201, [.ref 0, .ref 16, .ref 205, .int x3], [.ref 16], hp nS M)) (am_cF_to (by with_unfolding_all rfl)) rfl (by with_unfolding_all rfl)).trans ?_
  show am_Wp _ 0 201 _ _ _ _ = _
  refine (eq_step (e := (.aload_n 0, 1, 0, 0, 0)) (q := (202, [.ref 0, .ref 16, .ref 205, .int x3], [.ref 0, .ref 16], hp nS M)) (am_cF_to (by with_unfolding_all rfl)) rfl (by with_unfolding_all rfl)).trans ?_
  show am_Wp _ 0 202 _ _ _ _ = _
  refine (eq_step (e := (.iload_n 3, 1, 0, 0, 0)) (q := (203, [.ref 0, .ref 16, .ref 205, .int x3], [.int x3, .ref 0, .ref 16], hp nS M)) (am_cF_to (by with_unfolding_all rfl)) rfl (by with_unfolding_all rfl)).trans ?_
  show am_Wp _ 0 203 _ _ _ _ = _
  refine (eq_step (e := (.iconst 1, 1, 0, 0, 0)) (q := (204, [.ref 0, .ref 16, .ref 205, .int x3], [.int 1, .int x3, .ref 0, .ref 16], hp nS M)) (am_cF_to (by with_unfolding_all rfl)) rfl (by with_unfolding_all rfl)).trans ?_
  show am_Wp _ 0 204 _ _ _ _ = _
  refine (eq_step (e := (.iadd, 1, 0, 0, 0)) (q := (205, [.ref 0, .ref 16, .ref 205, .int x3], [.int (x3 + 1), .ref 0, .ref 16], hp nS M)) (am_cF_to (by with_unfolding_all rfl)) rfl (by with_unfolding_all rfl)).trans ?_
  show am_Wp _ 0 205 _ _ _ _ = _
  refine (eq_ald (e := (.iaload, 1, 0, 0, 0)) (by with_unfolding_all rfl) rfl (n := nS) (by with_unfolding_all rfl) h1).trans ?_
  show am_Wp _ 0 206 _ _ _ _ = _
  exact eq_call2 (e := (.invokevirtual 13, 3, 0, 123, 197)) (as := [.ref 16, .int (M 0 (x3 + 1).toNatClampNeg)]) (r := []) (n := 2) (m := 3) (by with_unfolding_all rfl) rfl (by decide) (by with_unfolding_all rfl) (by decide) (by with_unfolding_all rfl) ⟨fun _ => am_rec_ok (c := 13) (by with_unfolding_all rfl) (by decide +kernel), fun z => by simp at z⟩
set_option maxRecDepth 20000 in
theorem b_0_209 {d nS : Nat} {x3 s0 : Int32} {M : am_M} {Q : Option Value → am_H → Prop} (h1 : vp_in (x3 + 1) nS) : am_Wp (d + 1) 0 209 [.ref 0, .ref 16, .ref 205, .int x3] [.int s0] (hp nS M) Q = am_Wp d 169 0 [.ref 205, .int (M 0 (x3 + 1).toNatClampNeg), .retAddr 0] [] (hp nS M) (fun v h1 => am_Wp (d + 1) 0 218 [.ref 0, .ref 16, .ref 205, .int x3] (am_ans v [.int s0]) h1 Q) := by
  refine (eq_step (e := (.aload_n 2, 1, 0, 0, 0)) (q := (210, [.ref 0, .ref 16, .ref 205, .int x3], [.ref 205, .int s0], hp nS M)) (am_cF_to (by with_unfolding_all rfl)) rfl (by with_unfolding_all rfl)).trans ?_
  show am_Wp _ 0 210 _ _ _ _ = _
  refine (eq_step (e := (.aload_n 0, 1, 0, 0, 0)) (q := (211, [.ref 0, .ref 16, .ref 205, .int x3], [.ref 0, .ref 205, .int s0], hp nS M)) (am_cF_to (by with_unfolding_all rfl)) rfl (by with_unfolding_all rfl)).trans ?_
  show am_Wp _ 0 211 _ _ _ _ = _
  refine (eq_step (e := (.iload_n 3, 1, 0, 0, 0)) (q := (212, [.ref 0, .ref 16, .ref 205, .int x3], [.int x3, .ref 0, .ref 205, .int s0], hp nS M)) (am_cF_to (by with_unfolding_all rfl)) rfl (by with_unfolding_all rfl)).trans ?_
  show am_Wp _ 0 212 _ _ _ _ = _
  refine (eq_step (e := (.iconst 1, 1, 0, 0, 0)) (q := (213, [.ref 0, .ref 16, .ref 205, .int x3], [.int 1, .int x3, .ref 0, .ref 205, .int s0], hp nS M)) (am_cF_to (by with_unfolding_all rfl)) rfl (by with_unfolding_all rfl)).trans ?_
  show am_Wp _ 0 213 _ _ _ _ = _
  refine (eq_step (e := (.iadd, 1, 0, 0, 0)) (q := (214, [.ref 0, .ref 16, .ref 205, .int x3], [.int (x3 + 1), .ref 0, .ref 205, .int s0], hp nS M)) (am_cF_to (by with_unfolding_all rfl)) rfl (by with_unfolding_all rfl)).trans ?_
  show am_Wp _ 0 214 _ _ _ _ = _
  refine (eq_ald (e := (.iaload, 1, 0, 0, 0)) (by with_unfolding_all rfl) rfl (n := nS) (by with_unfolding_all rfl) h1).trans ?_
  show am_Wp _ 0 215 _ _ _ _ = _
  exact eq_call2 (e := (.invokevirtual 17, 3, 0, 169, 198)) (as := [.ref 205, .int (M 0 (x3 + 1).toNatClampNeg)]) (r := [.int s0]) (n := 2) (m := 3) (by with_unfolding_all rfl) rfl (by decide) (by with_unfolding_all rfl) (by decide) (by with_unfolding_all rfl) ⟨fun _ => am_rec_ok (c := 14) (by with_unfolding_all rfl) (by decide +kernel), fun z => by simp at z⟩
set_option maxRecDepth 20000 in
theorem b_0_218 {d nS : Nat} {x3 s0 s1 : Int32} {M : am_M} {Q : Option Value → am_H → Prop} : am_Wp d 0 218 [.ref 0, .ref 16, .ref 205, .int x3] [.int s1, .int s0] (hp nS M) Q = if s0 = s1 then am_Wp d 0 1410 [.ref 0, .ref 16, .ref 205, .int x3] [] (hp nS M) Q else am_Wp d 0 221 [.ref 0, .ref 16, .ref 205, .int x3] [] (hp nS M) Q := by
  exact eq_cmp_eq (by with_unfolding_all rfl)
set_option maxRecDepth 20000 in
theorem b_0_221 {d nS : Nat} {x3 : Int32} {M : am_M} {Q : Option Value → am_H → Prop} : am_Wp d 0 221 [.ref 0, .ref 16, .ref 205, .int x3] [] (hp nS M) Q = Q (some (.int 0)) (hp nS M) := by
  refine (eq_step (e := (.iconst 0, 1, 0, 0, 0)) (q := (222, [.ref 0, .ref 16, .ref 205, .int x3], [.int 0], hp nS M)) (am_cF_to (by with_unfolding_all rfl)) rfl (by with_unfolding_all rfl)).trans ?_
  show am_Wp _ 0 222 _ _ _ _ = _
  exact eq_retI2 (e := (.ireturn, 1, 0, 0, 0)) (t := .boolean) (by with_unfolding_all rfl) rfl (by with_unfolding_all rfl) rfl
set_option maxRecDepth 20000 in
theorem b_0_223 {d nS : Nat} {x3 : Int32} {M : am_M} {Q : Option Value → am_H → Prop} (h1 : vp_in (x3 + 1) nS) : am_Wp (d + 1) 0 223 [.ref 0, .ref 16, .ref 205, .int x3] [] (hp nS M) Q = am_Wp d 124 0 [.ref 16, .int (M 0 (x3 + 1).toNatClampNeg), .retAddr 0, .retAddr 0] [] (hp nS M) (fun v h1 => am_Wp (d + 1) 0 232 [.ref 0, .ref 16, .ref 205, .int x3] (am_ans v []) h1 Q) := by
  refine (eq_step (e := (.aload_n 1, 1, 0, 0, 0)) (q := (224, [.ref 0, .ref 16, .ref 205, .int x3], [.ref 16], hp nS M)) (am_cF_to (by with_unfolding_all rfl)) rfl (by with_unfolding_all rfl)).trans ?_
  show am_Wp _ 0 224 _ _ _ _ = _
  refine (eq_step (e := (.aload_n 0, 1, 0, 0, 0)) (q := (225, [.ref 0, .ref 16, .ref 205, .int x3], [.ref 0, .ref 16], hp nS M)) (am_cF_to (by with_unfolding_all rfl)) rfl (by with_unfolding_all rfl)).trans ?_
  show am_Wp _ 0 225 _ _ _ _ = _
  refine (eq_step (e := (.iload_n 3, 1, 0, 0, 0)) (q := (226, [.ref 0, .ref 16, .ref 205, .int x3], [.int x3, .ref 0, .ref 16], hp nS M)) (am_cF_to (by with_unfolding_all rfl)) rfl (by with_unfolding_all rfl)).trans ?_
  show am_Wp _ 0 226 _ _ _ _ = _
  refine (eq_step (e := (.iconst 1, 1, 0, 0, 0)) (q := (227, [.ref 0, .ref 16, .ref 205, .int x3], [.int 1, .int x3, .ref 0, .ref 16], hp nS M)) (am_cF_to (by with_unfolding_all rfl)) rfl (by with_unfolding_all rfl)).trans ?_
  show am_Wp _ 0 227 _ _ _ _ = _
  refine (eq_step (e := (.iadd, 1, 0, 0, 0)) (q := (228, [.ref 0, .ref 16, .ref 205, .int x3], [.int (x3 + 1), .ref 0, .ref 16], hp nS M)) (am_cF_to (by with_unfolding_all rfl)) rfl (by with_unfolding_all rfl)).trans ?_
  show am_Wp _ 0 228 _ _ _ _ = _
  refine (eq_ald (e := (.iaload, 1, 0, 0, 0)) (by with_unfolding_all rfl) rfl (n := nS) (by with_unfolding_all rfl) h1).trans ?_
  show am_Wp _ 0 229 _ _ _ _ = _
  exact eq_call2 (e := (.invokevirtual 18, 3, 0, 124, 199)) (as := [.ref 16, .int (M 0 (x3 + 1).toNatClampNeg)]) (r := []) (n := 2) (m := 4) (by with_unfolding_all rfl) rfl (by decide) (by with_unfolding_all rfl) (by decide) (by with_unfolding_all rfl) ⟨fun _ => am_rec_ok (c := 13) (by with_unfolding_all rfl) (by decide +kernel), fun z => by simp at z⟩
set_option maxRecDepth 20000 in
theorem b_0_232 {d nS : Nat} {x3 s0 : Int32} {M : am_M} {Q : Option Value → am_H → Prop} (h1 : vp_in (x3 + 1) nS) : am_Wp (d + 1) 0 232 [.ref 0, .ref 16, .ref 205, .int x3] [.int s0] (hp nS M) Q = am_Wp d 170 0 [.ref 205, .int (M 0 (x3 + 1).toNatClampNeg), .retAddr 0] [] (hp nS M) (fun v h1 => am_Wp (d + 1) 0 241 [.ref 0, .ref 16, .ref 205, .int x3] (am_ans v [.int s0]) h1 Q) := by
  refine (eq_step (e := (.aload_n 2, 1, 0, 0, 0)) (q := (233, [.ref 0, .ref 16, .ref 205, .int x3], [.ref 205, .int s0], hp nS M)) (am_cF_to (by with_unfolding_all rfl)) rfl (by with_unfolding_all rfl)).trans ?_
  show am_Wp _ 0 233 _ _ _ _ = _
  refine (eq_step (e := (.aload_n 0, 1, 0, 0, 0)) (q := (234, [.ref 0, .ref 16, .ref 205, .int x3], [.ref 0, .ref 205, .int s0], hp nS M)) (am_cF_to (by with_unfolding_all rfl)) rfl (by with_unfolding_all rfl)).trans ?_
  show am_Wp _ 0 234 _ _ _ _ = _
  refine (eq_step (e := (.iload_n 3, 1, 0, 0, 0)) (q := (235, [.ref 0, .ref 16, .ref 205, .int x3], [.int x3, .ref 0, .ref 205, .int s0], hp nS M)) (am_cF_to (by with_unfolding_all rfl)) rfl (by with_unfolding_all rfl)).trans ?_
  show am_Wp _ 0 235 _ _ _ _ = _
  refine (eq_step (e := (.iconst 1, 1, 0, 0, 0)) (q := (236, [.ref 0, .ref 16, .ref 205, .int x3], [.int 1, .int x3, .ref 0, .ref 205, .int s0], hp nS M)) (am_cF_to (by with_unfolding_all rfl)) rfl (by with_unfolding_all rfl)).trans ?_
  show am_Wp _ 0 236 _ _ _ _ = _
  refine (eq_step (e := (.iadd, 1, 0, 0, 0)) (q := (237, [.ref 0, .ref 16, .ref 205, .int x3], [.int (x3 + 1), .ref 0, .ref 205, .int s0], hp nS M)) (am_cF_to (by with_unfolding_all rfl)) rfl (by with_unfolding_all rfl)).trans ?_
  show am_Wp _ 0 237 _ _ _ _ = _
  refine (eq_ald (e := (.iaload, 1, 0, 0, 0)) (by with_unfolding_all rfl) rfl (n := nS) (by with_unfolding_all rfl) h1).trans ?_
  show am_Wp _ 0 238 _ _ _ _ = _
  exact eq_call2 (e := (.invokevirtual 21, 3, 0, 170, 200)) (as := [.ref 205, .int (M 0 (x3 + 1).toNatClampNeg)]) (r := [.int s0]) (n := 2) (m := 3) (by with_unfolding_all rfl) rfl (by decide) (by with_unfolding_all rfl) (by decide) (by with_unfolding_all rfl) ⟨fun _ => am_rec_ok (c := 14) (by with_unfolding_all rfl) (by decide +kernel), fun z => by simp at z⟩
set_option maxRecDepth 20000 in
theorem b_0_241 {d nS : Nat} {x3 s0 s1 : Int32} {M : am_M} {Q : Option Value → am_H → Prop} : am_Wp d 0 241 [.ref 0, .ref 16, .ref 205, .int x3] [.int s1, .int s0] (hp nS M) Q = if s0 = s1 then am_Wp d 0 1410 [.ref 0, .ref 16, .ref 205, .int x3] [] (hp nS M) Q else am_Wp d 0 244 [.ref 0, .ref 16, .ref 205, .int x3] [] (hp nS M) Q := by
  exact eq_cmp_eq (by with_unfolding_all rfl)
set_option maxRecDepth 20000 in
theorem b_0_244 {d nS : Nat} {x3 : Int32} {M : am_M} {Q : Option Value → am_H → Prop} : am_Wp d 0 244 [.ref 0, .ref 16, .ref 205, .int x3] [] (hp nS M) Q = Q (some (.int 0)) (hp nS M) := by
  refine (eq_step (e := (.iconst 0, 1, 0, 0, 0)) (q := (245, [.ref 0, .ref 16, .ref 205, .int x3], [.int 0], hp nS M)) (am_cF_to (by with_unfolding_all rfl)) rfl (by with_unfolding_all rfl)).trans ?_
  show am_Wp _ 0 245 _ _ _ _ = _
  exact eq_retI2 (e := (.ireturn, 1, 0, 0, 0)) (t := .boolean) (by with_unfolding_all rfl) rfl (by with_unfolding_all rfl) rfl
set_option maxRecDepth 20000 in
theorem b_0_246 {d nS : Nat} {x3 : Int32} {M : am_M} {Q : Option Value → am_H → Prop} (h1 : vp_in (x3 + 1) nS) : am_Wp (d + 1) 0 246 [.ref 0, .ref 16, .ref 205, .int x3] [] (hp nS M) Q = am_Wp d 126 0 [.ref 16, .int (M 0 (x3 + 1).toNatClampNeg), .retAddr 0, .retAddr 0] [] (hp nS M) (fun v h1 => am_Wp (d + 1) 0 255 [.ref 0, .ref 16, .ref 205, .int x3] (am_ans v []) h1 Q) := by
  refine (eq_step (e := (.aload_n 1, 1, 0, 0, 0)) (q := (247, [.ref 0, .ref 16, .ref 205, .int x3], [.ref 16], hp nS M)) (am_cF_to (by with_unfolding_all rfl)) rfl (by with_unfolding_all rfl)).trans ?_
  show am_Wp _ 0 247 _ _ _ _ = _
  refine (eq_step (e := (.aload_n 0, 1, 0, 0, 0)) (q := (248, [.ref 0, .ref 16, .ref 205, .int x3], [.ref 0, .ref 16], hp nS M)) (am_cF_to (by with_unfolding_all rfl)) rfl (by with_unfolding_all rfl)).trans ?_
  show am_Wp _ 0 248 _ _ _ _ = _
  refine (eq_step (e := (.iload_n 3, 1, 0, 0, 0)) (q := (249, [.ref 0, .ref 16, .ref 205, .int x3], [.int x3, .ref 0, .ref 16], hp nS M)) (am_cF_to (by with_unfolding_all rfl)) rfl (by with_unfolding_all rfl)).trans ?_
  show am_Wp _ 0 249 _ _ _ _ = _
  refine (eq_step (e := (.iconst 1, 1, 0, 0, 0)) (q := (250, [.ref 0, .ref 16, .ref 205, .int x3], [.int 1, .int x3, .ref 0, .ref 16], hp nS M)) (am_cF_to (by with_unfolding_all rfl)) rfl (by with_unfolding_all rfl)).trans ?_
  show am_Wp _ 0 250 _ _ _ _ = _
  refine (eq_step (e := (.iadd, 1, 0, 0, 0)) (q := (251, [.ref 0, .ref 16, .ref 205, .int x3], [.int (x3 + 1), .ref 0, .ref 16], hp nS M)) (am_cF_to (by with_unfolding_all rfl)) rfl (by with_unfolding_all rfl)).trans ?_
  show am_Wp _ 0 251 _ _ _ _ = _
  refine (eq_ald (e := (.iaload, 1, 0, 0, 0)) (by with_unfolding_all rfl) rfl (n := nS) (by with_unfolding_all rfl) h1).trans ?_
  show am_Wp _ 0 252 _ _ _ _ = _
  exact eq_call2 (e := (.invokevirtual 22, 3, 0, 126, 201)) (as := [.ref 16, .int (M 0 (x3 + 1).toNatClampNeg)]) (r := []) (n := 2) (m := 4) (by with_unfolding_all rfl) rfl (by decide) (by with_unfolding_all rfl) (by decide) (by with_unfolding_all rfl) ⟨fun _ => am_rec_ok (c := 13) (by with_unfolding_all rfl) (by decide +kernel), fun z => by simp at z⟩
set_option maxRecDepth 20000 in
theorem b_0_255 {d nS : Nat} {x3 s0 : Int32} {M : am_M} {Q : Option Value → am_H → Prop} (h1 : vp_in (x3 + 1) nS) : am_Wp (d + 1) 0 255 [.ref 0, .ref 16, .ref 205, .int x3] [.int s0] (hp nS M) Q = am_Wp d 172 0 [.ref 205, .int (M 0 (x3 + 1).toNatClampNeg), .retAddr 0] [] (hp nS M) (fun v h1 => am_Wp (d + 1) 0 264 [.ref 0, .ref 16, .ref 205, .int x3] (am_ans v [.int s0]) h1 Q) := by
  refine (eq_step (e := (.aload_n 2, 1, 0, 0, 0)) (q := (256, [.ref 0, .ref 16, .ref 205, .int x3], [.ref 205, .int s0], hp nS M)) (am_cF_to (by with_unfolding_all rfl)) rfl (by with_unfolding_all rfl)).trans ?_
  show am_Wp _ 0 256 _ _ _ _ = _
  refine (eq_step (e := (.aload_n 0, 1, 0, 0, 0)) (q := (257, [.ref 0, .ref 16, .ref 205, .int x3], [.ref 0, .ref 205, .int s0], hp nS M)) (am_cF_to (by with_unfolding_all rfl)) rfl (by with_unfolding_all rfl)).trans ?_
  show am_Wp _ 0 257 _ _ _ _ = _
  refine (eq_step (e := (.iload_n 3, 1, 0, 0, 0)) (q := (258, [.ref 0, .ref 16, .ref 205, .int x3], [.int x3, .ref 0, .ref 205, .int s0], hp nS M)) (am_cF_to (by with_unfolding_all rfl)) rfl (by with_unfolding_all rfl)).trans ?_
  show am_Wp _ 0 258 _ _ _ _ = _
  refine (eq_step (e := (.iconst 1, 1, 0, 0, 0)) (q := (259, [.ref 0, .ref 16, .ref 205, .int x3], [.int 1, .int x3, .ref 0, .ref 205, .int s0], hp nS M)) (am_cF_to (by with_unfolding_all rfl)) rfl (by with_unfolding_all rfl)).trans ?_
  show am_Wp _ 0 259 _ _ _ _ = _
  refine (eq_step (e := (.iadd, 1, 0, 0, 0)) (q := (260, [.ref 0, .ref 16, .ref 205, .int x3], [.int (x3 + 1), .ref 0, .ref 205, .int s0], hp nS M)) (am_cF_to (by with_unfolding_all rfl)) rfl (by with_unfolding_all rfl)).trans ?_
  show am_Wp _ 0 260 _ _ _ _ = _
  refine (eq_ald (e := (.iaload, 1, 0, 0, 0)) (by with_unfolding_all rfl) rfl (n := nS) (by with_unfolding_all rfl) h1).trans ?_
  show am_Wp _ 0 261 _ _ _ _ = _
  exact eq_call2 (e := (.invokevirtual 25, 3, 0, 172, 202)) (as := [.ref 205, .int (M 0 (x3 + 1).toNatClampNeg)]) (r := [.int s0]) (n := 2) (m := 3) (by with_unfolding_all rfl) rfl (by decide) (by with_unfolding_all rfl) (by decide) (by with_unfolding_all rfl) ⟨fun _ => am_rec_ok (c := 14) (by with_unfolding_all rfl) (by decide +kernel), fun z => by simp at z⟩
set_option maxRecDepth 20000 in
theorem b_0_264 {d nS : Nat} {x3 s0 s1 : Int32} {M : am_M} {Q : Option Value → am_H → Prop} : am_Wp d 0 264 [.ref 0, .ref 16, .ref 205, .int x3] [.int s1, .int s0] (hp nS M) Q = if s0 = s1 then am_Wp d 0 1410 [.ref 0, .ref 16, .ref 205, .int x3] [] (hp nS M) Q else am_Wp d 0 267 [.ref 0, .ref 16, .ref 205, .int x3] [] (hp nS M) Q := by
  exact eq_cmp_eq (by with_unfolding_all rfl)
set_option maxRecDepth 20000 in
theorem b_0_267 {d nS : Nat} {x3 : Int32} {M : am_M} {Q : Option Value → am_H → Prop} : am_Wp d 0 267 [.ref 0, .ref 16, .ref 205, .int x3] [] (hp nS M) Q = Q (some (.int 0)) (hp nS M) := by
  refine (eq_step (e := (.iconst 0, 1, 0, 0, 0)) (q := (268, [.ref 0, .ref 16, .ref 205, .int x3], [.int 0], hp nS M)) (am_cF_to (by with_unfolding_all rfl)) rfl (by with_unfolding_all rfl)).trans ?_
  show am_Wp _ 0 268 _ _ _ _ = _
  exact eq_retI2 (e := (.ireturn, 1, 0, 0, 0)) (t := .boolean) (by with_unfolding_all rfl) rfl (by with_unfolding_all rfl) rfl
set_option maxRecDepth 20000 in
theorem b_0_269 {d nS : Nat} {x3 : Int32} {M : am_M} {Q : Option Value → am_H → Prop} (h1 : vp_in (x3 + 1) nS) : am_Wp (d + 1) 0 269 [.ref 0, .ref 16, .ref 205, .int x3] [] (hp nS M) Q = am_Wp d 127 0 [.ref 16, .int (M 0 (x3 + 1).toNatClampNeg), .retAddr 0, .retAddr 0] [] (hp nS M) (fun v h1 => am_Wp (d + 1) 0 278 [.ref 0, .ref 16, .ref 205, .int x3] (am_ans v []) h1 Q) := by
  refine (eq_step (e := (.aload_n 1, 1, 0, 0, 0)) (q := (270, [.ref 0, .ref 16, .ref 205, .int x3], [.ref 16], hp nS M)) (am_cF_to (by with_unfolding_all rfl)) rfl (by with_unfolding_all rfl)).trans ?_
  show am_Wp _ 0 270 _ _ _ _ = _
  refine (eq_step (e := (.aload_n 0, 1, 0, 0, 0)) (q := (271, [.ref 0, .ref 16, .ref 205, .int x3], [.ref 0, .ref 16], hp nS M)) (am_cF_to (by with_unfolding_all rfl)) rfl (by with_unfolding_all rfl)).trans ?_
  show am_Wp _ 0 271 _ _ _ _ = _
  refine (eq_step (e := (.iload_n 3, 1, 0, 0, 0)) (q := (272, [.ref 0, .ref 16, .ref 205, .int x3], [.int x3, .ref 0, .ref 16], hp nS M)) (am_cF_to (by with_unfolding_all rfl)) rfl (by with_unfolding_all rfl)).trans ?_
  show am_Wp _ 0 272 _ _ _ _ = _
  refine (eq_step (e := (.iconst 1, 1, 0, 0, 0)) (q := (273, [.ref 0, .ref 16, .ref 205, .int x3], [.int 1, .int x3, .ref 0, .ref 16], hp nS M)) (am_cF_to (by with_unfolding_all rfl)) rfl (by with_unfolding_all rfl)).trans ?_
  show am_Wp _ 0 273 _ _ _ _ = _
  refine (eq_step (e := (.iadd, 1, 0, 0, 0)) (q := (274, [.ref 0, .ref 16, .ref 205, .int x3], [.int (x3 + 1), .ref 0, .ref 16], hp nS M)) (am_cF_to (by with_unfolding_all rfl)) rfl (by with_unfolding_all rfl)).trans ?_
  show am_Wp _ 0 274 _ _ _ _ = _
  refine (eq_ald (e := (.iaload, 1, 0, 0, 0)) (by with_unfolding_all rfl) rfl (n := nS) (by with_unfolding_all rfl) h1).trans ?_
  show am_Wp _ 0 275 _ _ _ _ = _
  exact eq_call2 (e := (.invokevirtual 26, 3, 0, 127, 203)) (as := [.ref 16, .int (M 0 (x3 + 1).toNatClampNeg)]) (r := []) (n := 2) (m := 4) (by with_unfolding_all rfl) rfl (by decide) (by with_unfolding_all rfl) (by decide) (by with_unfolding_all rfl) ⟨fun _ => am_rec_ok (c := 13) (by with_unfolding_all rfl) (by decide +kernel), fun z => by simp at z⟩
set_option maxRecDepth 20000 in
theorem b_0_278 {d nS : Nat} {x3 s0 : Int32} {M : am_M} {Q : Option Value → am_H → Prop} (h1 : vp_in (x3 + 1) nS) : am_Wp (d + 1) 0 278 [.ref 0, .ref 16, .ref 205, .int x3] [.int s0] (hp nS M) Q = am_Wp d 174 0 [.ref 205, .int (M 0 (x3 + 1).toNatClampNeg), .retAddr 0] [] (hp nS M) (fun v h1 => am_Wp (d + 1) 0 287 [.ref 0, .ref 16, .ref 205, .int x3] (am_ans v [.int s0]) h1 Q) := by
  refine (eq_step (e := (.aload_n 2, 1, 0, 0, 0)) (q := (279, [.ref 0, .ref 16, .ref 205, .int x3], [.ref 205, .int s0], hp nS M)) (am_cF_to (by with_unfolding_all rfl)) rfl (by with_unfolding_all rfl)).trans ?_
  show am_Wp _ 0 279 _ _ _ _ = _
  refine (eq_step (e := (.aload_n 0, 1, 0, 0, 0)) (q := (280, [.ref 0, .ref 16, .ref 205, .int x3], [.ref 0, .ref 205, .int s0], hp nS M)) (am_cF_to (by with_unfolding_all rfl)) rfl (by with_unfolding_all rfl)).trans ?_
  show am_Wp _ 0 280 _ _ _ _ = _
  refine (eq_step (e := (.iload_n 3, 1, 0, 0, 0)) (q := (281, [.ref 0, .ref 16, .ref 205, .int x3], [.int x3, .ref 0, .ref 205, .int s0], hp nS M)) (am_cF_to (by with_unfolding_all rfl)) rfl (by with_unfolding_all rfl)).trans ?_
  show am_Wp _ 0 281 _ _ _ _ = _
  refine (eq_step (e := (.iconst 1, 1, 0, 0, 0)) (q := (282, [.ref 0, .ref 16, .ref 205, .int x3], [.int 1, .int x3, .ref 0, .ref 205, .int s0], hp nS M)) (am_cF_to (by with_unfolding_all rfl)) rfl (by with_unfolding_all rfl)).trans ?_
  show am_Wp _ 0 282 _ _ _ _ = _
  refine (eq_step (e := (.iadd, 1, 0, 0, 0)) (q := (283, [.ref 0, .ref 16, .ref 205, .int x3], [.int (x3 + 1), .ref 0, .ref 205, .int s0], hp nS M)) (am_cF_to (by with_unfolding_all rfl)) rfl (by with_unfolding_all rfl)).trans ?_
  show am_Wp _ 0 283 _ _ _ _ = _
  refine (eq_ald (e := (.iaload, 1, 0, 0, 0)) (by with_unfolding_all rfl) rfl (n := nS) (by with_unfolding_all rfl) h1).trans ?_
  show am_Wp _ 0 284 _ _ _ _ = _
  exact eq_call2 (e := (.invokevirtual 29, 3, 0, 174, 204)) (as := [.ref 205, .int (M 0 (x3 + 1).toNatClampNeg)]) (r := [.int s0]) (n := 2) (m := 3) (by with_unfolding_all rfl) rfl (by decide) (by with_unfolding_all rfl) (by decide) (by with_unfolding_all rfl) ⟨fun _ => am_rec_ok (c := 14) (by with_unfolding_all rfl) (by decide +kernel), fun z => by simp at z⟩
set_option maxRecDepth 20000 in
theorem b_0_287 {d nS : Nat} {x3 s0 s1 : Int32} {M : am_M} {Q : Option Value → am_H → Prop} : am_Wp d 0 287 [.ref 0, .ref 16, .ref 205, .int x3] [.int s1, .int s0] (hp nS M) Q = if s0 = s1 then am_Wp d 0 1410 [.ref 0, .ref 16, .ref 205, .int x3] [] (hp nS M) Q else am_Wp d 0 290 [.ref 0, .ref 16, .ref 205, .int x3] [] (hp nS M) Q := by
  exact eq_cmp_eq (by with_unfolding_all rfl)
set_option maxRecDepth 20000 in
theorem b_0_290 {d nS : Nat} {x3 : Int32} {M : am_M} {Q : Option Value → am_H → Prop} : am_Wp d 0 290 [.ref 0, .ref 16, .ref 205, .int x3] [] (hp nS M) Q = Q (some (.int 0)) (hp nS M) := by
  refine (eq_step (e := (.iconst 0, 1, 0, 0, 0)) (q := (291, [.ref 0, .ref 16, .ref 205, .int x3], [.int 0], hp nS M)) (am_cF_to (by with_unfolding_all rfl)) rfl (by with_unfolding_all rfl)).trans ?_
  show am_Wp _ 0 291 _ _ _ _ = _
  exact eq_retI2 (e := (.ireturn, 1, 0, 0, 0)) (t := .boolean) (by with_unfolding_all rfl) rfl (by with_unfolding_all rfl) rfl
set_option maxRecDepth 20000 in
theorem b_0_292 {d nS : Nat} {x3 : Int32} {M : am_M} {Q : Option Value → am_H → Prop} (h1 : vp_in (x3 + 1) nS) (h2 : vp_in (x3 + 2) nS) (h3 : vp_in (x3 + 3) nS) : am_Wp (d + 1) 0 292 [.ref 0, .ref 16, .ref 205, .int x3] [] (hp nS M) Q = am_Wp d 128 0 [.ref 16, .int (M 0 (x3 + 1).toNatClampNeg), .int (M 0 (x3 + 2).toNatClampNeg), .int (M 0 (x3 + 3).toNatClampNeg), .retAddr 0] [] (hp nS M) (fun v h1 => am_Wp (d + 1) 0 311 [.ref 0, .ref 16, .ref 205, .int x3] (am_ans v []) h1 Q) := by
  refine (eq_step (e := (.aload_n 1, 1, 0, 0, 0)) (q := (293, [.ref 0, .ref 16, .ref 205, .int x3], [.ref 16], hp nS M)) (am_cF_to (by with_unfolding_all rfl)) rfl (by with_unfolding_all rfl)).trans ?_
  show am_Wp _ 0 293 _ _ _ _ = _
  refine (eq_step (e := (.aload_n 0, 1, 0, 0, 0)) (q := (294, [.ref 0, .ref 16, .ref 205, .int x3], [.ref 0, .ref 16], hp nS M)) (am_cF_to (by with_unfolding_all rfl)) rfl (by with_unfolding_all rfl)).trans ?_
  show am_Wp _ 0 294 _ _ _ _ = _
  refine (eq_step (e := (.iload_n 3, 1, 0, 0, 0)) (q := (295, [.ref 0, .ref 16, .ref 205, .int x3], [.int x3, .ref 0, .ref 16], hp nS M)) (am_cF_to (by with_unfolding_all rfl)) rfl (by with_unfolding_all rfl)).trans ?_
  show am_Wp _ 0 295 _ _ _ _ = _
  refine (eq_step (e := (.iconst 1, 1, 0, 0, 0)) (q := (296, [.ref 0, .ref 16, .ref 205, .int x3], [.int 1, .int x3, .ref 0, .ref 16], hp nS M)) (am_cF_to (by with_unfolding_all rfl)) rfl (by with_unfolding_all rfl)).trans ?_
  show am_Wp _ 0 296 _ _ _ _ = _
  refine (eq_step (e := (.iadd, 1, 0, 0, 0)) (q := (297, [.ref 0, .ref 16, .ref 205, .int x3], [.int (x3 + 1), .ref 0, .ref 16], hp nS M)) (am_cF_to (by with_unfolding_all rfl)) rfl (by with_unfolding_all rfl)).trans ?_
  show am_Wp _ 0 297 _ _ _ _ = _
  refine (eq_ald (e := (.iaload, 1, 0, 0, 0)) (by with_unfolding_all rfl) rfl (n := nS) (by with_unfolding_all rfl) h1).trans ?_
  show am_Wp _ 0 298 _ _ _ _ = _
  refine (eq_step (e := (.aload_n 0, 1, 0, 0, 0)) (q := (299, [.ref 0, .ref 16, .ref 205, .int x3], [.ref 0, .int (M 0 (x3 + 1).toNatClampNeg), .ref 16], hp nS M)) (am_cF_to (by with_unfolding_all rfl)) rfl (by with_unfolding_all rfl)).trans ?_
  show am_Wp _ 0 299 _ _ _ _ = _
  refine (eq_step (e := (.iload_n 3, 1, 0, 0, 0)) (q := (300, [.ref 0, .ref 16, .ref 205, .int x3], [.int x3, .ref 0, .int (M 0 (x3 + 1).toNatClampNeg), .ref 16], hp nS M)) (am_cF_to (by with_unfolding_all rfl)) rfl (by with_unfolding_all rfl)).trans ?_
  show am_Wp _ 0 300 _ _ _ _ = _
  refine (eq_step (e := (.iconst 2, 1, 0, 0, 0)) (q := (301, [.ref 0, .ref 16, .ref 205, .int x3], [.int 2, .int x3, .ref 0, .int (M 0 (x3 + 1).toNatClampNeg), .ref 16], hp nS M)) (am_cF_to (by with_unfolding_all rfl)) rfl (by with_unfolding_all rfl)).trans ?_
  show am_Wp _ 0 301 _ _ _ _ = _
  refine (eq_step (e := (.iadd, 1, 0, 0, 0)) (q := (302, [.ref 0, .ref 16, .ref 205, .int x3], [.int (x3 + 2), .ref 0, .int (M 0 (x3 + 1).toNatClampNeg), .ref 16], hp nS M)) (am_cF_to (by with_unfolding_all rfl)) rfl (by with_unfolding_all rfl)).trans ?_
  show am_Wp _ 0 302 _ _ _ _ = _
  refine (eq_ald (e := (.iaload, 1, 0, 0, 0)) (by with_unfolding_all rfl) rfl (n := nS) (by with_unfolding_all rfl) h2).trans ?_
  show am_Wp _ 0 303 _ _ _ _ = _
  refine (eq_step (e := (.aload_n 0, 1, 0, 0, 0)) (q := (304, [.ref 0, .ref 16, .ref 205, .int x3], [.ref 0, .int (M 0 (x3 + 2).toNatClampNeg), .int (M 0 (x3 + 1).toNatClampNeg), .ref 16], hp nS M)) (am_cF_to (by with_unfolding_all rfl)) rfl (by with_unfolding_all rfl)).trans ?_
  show am_Wp _ 0 304 _ _ _ _ = _
  refine (eq_step (e := (.iload_n 3, 1, 0, 0, 0)) (q := (305, [.ref 0, .ref 16, .ref 205, .int x3], [.int x3, .ref 0, .int (M 0 (x3 + 2).toNatClampNeg), .int (M 0 (x3 + 1).toNatClampNeg), .ref 16], hp nS M)) (am_cF_to (by with_unfolding_all rfl)) rfl (by with_unfolding_all rfl)).trans ?_
  show am_Wp _ 0 305 _ _ _ _ = _
  refine (eq_step (e := (.iconst 3, 1, 0, 0, 0)) (q := (306, [.ref 0, .ref 16, .ref 205, .int x3], [.int 3, .int x3, .ref 0, .int (M 0 (x3 + 2).toNatClampNeg), .int (M 0 (x3 + 1).toNatClampNeg), .ref 16], hp nS M)) (am_cF_to (by with_unfolding_all rfl)) rfl (by with_unfolding_all rfl)).trans ?_
  show am_Wp _ 0 306 _ _ _ _ = _
  refine (eq_step (e := (.iadd, 1, 0, 0, 0)) (q := (307, [.ref 0, .ref 16, .ref 205, .int x3], [.int (x3 + 3), .ref 0, .int (M 0 (x3 + 2).toNatClampNeg), .int (M 0 (x3 + 1).toNatClampNeg), .ref 16], hp nS M)) (am_cF_to (by with_unfolding_all rfl)) rfl (by with_unfolding_all rfl)).trans ?_
  show am_Wp _ 0 307 _ _ _ _ = _
  refine (eq_ald (e := (.iaload, 1, 0, 0, 0)) (by with_unfolding_all rfl) rfl (n := nS) (by with_unfolding_all rfl) h3).trans ?_
  show am_Wp _ 0 308 _ _ _ _ = _
  exact eq_call2 (e := (.invokevirtual 30, 3, 0, 128, 205)) (as := [.ref 16, .int (M 0 (x3 + 1).toNatClampNeg), .int (M 0 (x3 + 2).toNatClampNeg), .int (M 0 (x3 + 3).toNatClampNeg)]) (r := []) (n := 4) (m := 5) (by with_unfolding_all rfl) rfl (by decide) (by with_unfolding_all rfl) (by decide) (by with_unfolding_all rfl) ⟨fun _ => am_rec_ok (c := 13) (by with_unfolding_all rfl) (by decide +kernel), fun z => by simp at z⟩
set_option maxRecDepth 20000 in
theorem b_0_311 {d nS : Nat} {x3 s0 : Int32} {M : am_M} {Q : Option Value → am_H → Prop} (h1 : vp_in (x3 + 1) nS) (h2 : vp_in (x3 + 2) nS) (h3 : vp_in (x3 + 3) nS) : am_Wp (d + 1) 0 311 [.ref 0, .ref 16, .ref 205, .int x3] [.int s0] (hp nS M) Q = am_Wp d 175 0 [.ref 205, .int (M 0 (x3 + 1).toNatClampNeg), .int (M 0 (x3 + 2).toNatClampNeg), .int (M 0 (x3 + 3).toNatClampNeg)] [] (hp nS M) (fun v h1 => am_Wp (d + 1) 0 330 [.ref 0, .ref 16, .ref 205, .int x3] (am_ans v [.int s0]) h1 Q) := by
  refine (eq_step (e := (.aload_n 2, 1, 0, 0, 0)) (q := (312, [.ref 0, .ref 16, .ref 205, .int x3], [.ref 205, .int s0], hp nS M)) (am_cF_to (by with_unfolding_all rfl)) rfl (by with_unfolding_all rfl)).trans ?_
  show am_Wp _ 0 312 _ _ _ _ = _
  refine (eq_step (e := (.aload_n 0, 1, 0, 0, 0)) (q := (313, [.ref 0, .ref 16, .ref 205, .int x3], [.ref 0, .ref 205, .int s0], hp nS M)) (am_cF_to (by with_unfolding_all rfl)) rfl (by with_unfolding_all rfl)).trans ?_
  show am_Wp _ 0 313 _ _ _ _ = _
  refine (eq_step (e := (.iload_n 3, 1, 0, 0, 0)) (q := (314, [.ref 0, .ref 16, .ref 205, .int x3], [.int x3, .ref 0, .ref 205, .int s0], hp nS M)) (am_cF_to (by with_unfolding_all rfl)) rfl (by with_unfolding_all rfl)).trans ?_
  show am_Wp _ 0 314 _ _ _ _ = _
  refine (eq_step (e := (.iconst 1, 1, 0, 0, 0)) (q := (315, [.ref 0, .ref 16, .ref 205, .int x3], [.int 1, .int x3, .ref 0, .ref 205, .int s0], hp nS M)) (am_cF_to (by with_unfolding_all rfl)) rfl (by with_unfolding_all rfl)).trans ?_
  show am_Wp _ 0 315 _ _ _ _ = _
  refine (eq_step (e := (.iadd, 1, 0, 0, 0)) (q := (316, [.ref 0, .ref 16, .ref 205, .int x3], [.int (x3 + 1), .ref 0, .ref 205, .int s0], hp nS M)) (am_cF_to (by with_unfolding_all rfl)) rfl (by with_unfolding_all rfl)).trans ?_
  show am_Wp _ 0 316 _ _ _ _ = _
  refine (eq_ald (e := (.iaload, 1, 0, 0, 0)) (by with_unfolding_all rfl) rfl (n := nS) (by with_unfolding_all rfl) h1).trans ?_
  show am_Wp _ 0 317 _ _ _ _ = _
  refine (eq_step (e := (.aload_n 0, 1, 0, 0, 0)) (q := (318, [.ref 0, .ref 16, .ref 205, .int x3], [.ref 0, .int (M 0 (x3 + 1).toNatClampNeg), .ref 205, .int s0], hp nS M)) (am_cF_to (by with_unfolding_all rfl)) rfl (by with_unfolding_all rfl)).trans ?_
  show am_Wp _ 0 318 _ _ _ _ = _
  refine (eq_step (e := (.iload_n 3, 1, 0, 0, 0)) (q := (319, [.ref 0, .ref 16, .ref 205, .int x3], [.int x3, .ref 0, .int (M 0 (x3 + 1).toNatClampNeg), .ref 205, .int s0], hp nS M)) (am_cF_to (by with_unfolding_all rfl)) rfl (by with_unfolding_all rfl)).trans ?_
  show am_Wp _ 0 319 _ _ _ _ = _
  refine (eq_step (e := (.iconst 2, 1, 0, 0, 0)) (q := (320, [.ref 0, .ref 16, .ref 205, .int x3], [.int 2, .int x3, .ref 0, .int (M 0 (x3 + 1).toNatClampNeg), .ref 205, .int s0], hp nS M)) (am_cF_to (by with_unfolding_all rfl)) rfl (by with_unfolding_all rfl)).trans ?_
  show am_Wp _ 0 320 _ _ _ _ = _
  refine (eq_step (e := (.iadd, 1, 0, 0, 0)) (q := (321, [.ref 0, .ref 16, .ref 205, .int x3], [.int (x3 + 2), .ref 0, .int (M 0 (x3 + 1).toNatClampNeg), .ref 205, .int s0], hp nS M)) (am_cF_to (by with_unfolding_all rfl)) rfl (by with_unfolding_all rfl)).trans ?_
  show am_Wp _ 0 321 _ _ _ _ = _
  refine (eq_ald (e := (.iaload, 1, 0, 0, 0)) (by with_unfolding_all rfl) rfl (n := nS) (by with_unfolding_all rfl) h2).trans ?_
  show am_Wp _ 0 322 _ _ _ _ = _
  refine (eq_step (e := (.aload_n 0, 1, 0, 0, 0)) (q := (323, [.ref 0, .ref 16, .ref 205, .int x3], [.ref 0, .int (M 0 (x3 + 2).toNatClampNeg), .int (M 0 (x3 + 1).toNatClampNeg), .ref 205, .int s0], hp nS M)) (am_cF_to (by with_unfolding_all rfl)) rfl (by with_unfolding_all rfl)).trans ?_
  show am_Wp _ 0 323 _ _ _ _ = _
  refine (eq_step (e := (.iload_n 3, 1, 0, 0, 0)) (q := (324, [.ref 0, .ref 16, .ref 205, .int x3], [.int x3, .ref 0, .int (M 0 (x3 + 2).toNatClampNeg), .int (M 0 (x3 + 1).toNatClampNeg), .ref 205, .int s0], hp nS M)) (am_cF_to (by with_unfolding_all rfl)) rfl (by with_unfolding_all rfl)).trans ?_
  show am_Wp _ 0 324 _ _ _ _ = _
  refine (eq_step (e := (.iconst 3, 1, 0, 0, 0)) (q := (325, [.ref 0, .ref 16, .ref 205, .int x3], [.int 3, .int x3, .ref 0, .int (M 0 (x3 + 2).toNatClampNeg), .int (M 0 (x3 + 1).toNatClampNeg), .ref 205, .int s0], hp nS M)) (am_cF_to (by with_unfolding_all rfl)) rfl (by with_unfolding_all rfl)).trans ?_
  show am_Wp _ 0 325 _ _ _ _ = _
  refine (eq_step (e := (.iadd, 1, 0, 0, 0)) (q := (326, [.ref 0, .ref 16, .ref 205, .int x3], [.int (x3 + 3), .ref 0, .int (M 0 (x3 + 2).toNatClampNeg), .int (M 0 (x3 + 1).toNatClampNeg), .ref 205, .int s0], hp nS M)) (am_cF_to (by with_unfolding_all rfl)) rfl (by with_unfolding_all rfl)).trans ?_
  show am_Wp _ 0 326 _ _ _ _ = _
  refine (eq_ald (e := (.iaload, 1, 0, 0, 0)) (by with_unfolding_all rfl) rfl (n := nS) (by with_unfolding_all rfl) h3).trans ?_
  show am_Wp _ 0 327 _ _ _ _ = _
  exact eq_call2 (e := (.invokevirtual 34, 3, 0, 175, 206)) (as := [.ref 205, .int (M 0 (x3 + 1).toNatClampNeg), .int (M 0 (x3 + 2).toNatClampNeg), .int (M 0 (x3 + 3).toNatClampNeg)]) (r := [.int s0]) (n := 4) (m := 4) (by with_unfolding_all rfl) rfl (by decide) (by with_unfolding_all rfl) (by decide) (by with_unfolding_all rfl) ⟨fun _ => am_rec_ok (c := 14) (by with_unfolding_all rfl) (by decide +kernel), fun z => by simp at z⟩
set_option maxRecDepth 20000 in
theorem b_0_330 {d nS : Nat} {x3 s0 s1 : Int32} {M : am_M} {Q : Option Value → am_H → Prop} : am_Wp d 0 330 [.ref 0, .ref 16, .ref 205, .int x3] [.int s1, .int s0] (hp nS M) Q = if s0 = s1 then am_Wp d 0 1410 [.ref 0, .ref 16, .ref 205, .int x3] [] (hp nS M) Q else am_Wp d 0 333 [.ref 0, .ref 16, .ref 205, .int x3] [] (hp nS M) Q := by
  exact eq_cmp_eq (by with_unfolding_all rfl)
set_option maxRecDepth 20000 in
theorem b_0_333 {d nS : Nat} {x3 : Int32} {M : am_M} {Q : Option Value → am_H → Prop} : am_Wp d 0 333 [.ref 0, .ref 16, .ref 205, .int x3] [] (hp nS M) Q = Q (some (.int 0)) (hp nS M) := by
  refine (eq_step (e := (.iconst 0, 1, 0, 0, 0)) (q := (334, [.ref 0, .ref 16, .ref 205, .int x3], [.int 0], hp nS M)) (am_cF_to (by with_unfolding_all rfl)) rfl (by with_unfolding_all rfl)).trans ?_
  show am_Wp _ 0 334 _ _ _ _ = _
  exact eq_retI2 (e := (.ireturn, 1, 0, 0, 0)) (t := .boolean) (by with_unfolding_all rfl) rfl (by with_unfolding_all rfl) rfl
set_option maxRecDepth 20000 in
theorem b_0_335 {d nS : Nat} {x3 : Int32} {M : am_M} {Q : Option Value → am_H → Prop} (h1 : vp_in (x3 + 1) nS) (h2 : vp_in (x3 + 2) nS) (h3 : vp_in (x3 + 3) nS) : am_Wp (d + 1) 0 335 [.ref 0, .ref 16, .ref 205, .int x3] [] (hp nS M) Q = am_Wp d 129 0 [.ref 16, .int (M 0 (x3 + 1).toNatClampNeg), .int (M 0 (x3 + 2).toNatClampNeg), .int (M 0 (x3 + 3).toNatClampNeg), .retAddr 0] [] (hp nS M) (fun v h1 => am_Wp (d + 1) 0 354 [.ref 0, .ref 16, .ref 205, .int x3] (am_ans v []) h1 Q) := by
  refine (eq_step (e := (.aload_n 1, 1, 0, 0, 0)) (q := (336, [.ref 0, .ref 16, .ref 205, .int x3], [.ref 16], hp nS M)) (am_cF_to (by with_unfolding_all rfl)) rfl (by with_unfolding_all rfl)).trans ?_
  show am_Wp _ 0 336 _ _ _ _ = _
  refine (eq_step (e := (.aload_n 0, 1, 0, 0, 0)) (q := (337, [.ref 0, .ref 16, .ref 205, .int x3], [.ref 0, .ref 16], hp nS M)) (am_cF_to (by with_unfolding_all rfl)) rfl (by with_unfolding_all rfl)).trans ?_
  show am_Wp _ 0 337 _ _ _ _ = _
  refine (eq_step (e := (.iload_n 3, 1, 0, 0, 0)) (q := (338, [.ref 0, .ref 16, .ref 205, .int x3], [.int x3, .ref 0, .ref 16], hp nS M)) (am_cF_to (by with_unfolding_all rfl)) rfl (by with_unfolding_all rfl)).trans ?_
  show am_Wp _ 0 338 _ _ _ _ = _
  refine (eq_step (e := (.iconst 1, 1, 0, 0, 0)) (q := (339, [.ref 0, .ref 16, .ref 205, .int x3], [.int 1, .int x3, .ref 0, .ref 16], hp nS M)) (am_cF_to (by with_unfolding_all rfl)) rfl (by with_unfolding_all rfl)).trans ?_
  show am_Wp _ 0 339 _ _ _ _ = _
  refine (eq_step (e := (.iadd, 1, 0, 0, 0)) (q := (340, [.ref 0, .ref 16, .ref 205, .int x3], [.int (x3 + 1), .ref 0, .ref 16], hp nS M)) (am_cF_to (by with_unfolding_all rfl)) rfl (by with_unfolding_all rfl)).trans ?_
  show am_Wp _ 0 340 _ _ _ _ = _
  refine (eq_ald (e := (.iaload, 1, 0, 0, 0)) (by with_unfolding_all rfl) rfl (n := nS) (by with_unfolding_all rfl) h1).trans ?_
  show am_Wp _ 0 341 _ _ _ _ = _
  refine (eq_step (e := (.aload_n 0, 1, 0, 0, 0)) (q := (342, [.ref 0, .ref 16, .ref 205, .int x3], [.ref 0, .int (M 0 (x3 + 1).toNatClampNeg), .ref 16], hp nS M)) (am_cF_to (by with_unfolding_all rfl)) rfl (by with_unfolding_all rfl)).trans ?_
  show am_Wp _ 0 342 _ _ _ _ = _
  refine (eq_step (e := (.iload_n 3, 1, 0, 0, 0)) (q := (343, [.ref 0, .ref 16, .ref 205, .int x3], [.int x3, .ref 0, .int (M 0 (x3 + 1).toNatClampNeg), .ref 16], hp nS M)) (am_cF_to (by with_unfolding_all rfl)) rfl (by with_unfolding_all rfl)).trans ?_
  show am_Wp _ 0 343 _ _ _ _ = _
  refine (eq_step (e := (.iconst 2, 1, 0, 0, 0)) (q := (344, [.ref 0, .ref 16, .ref 205, .int x3], [.int 2, .int x3, .ref 0, .int (M 0 (x3 + 1).toNatClampNeg), .ref 16], hp nS M)) (am_cF_to (by with_unfolding_all rfl)) rfl (by with_unfolding_all rfl)).trans ?_
  show am_Wp _ 0 344 _ _ _ _ = _
  refine (eq_step (e := (.iadd, 1, 0, 0, 0)) (q := (345, [.ref 0, .ref 16, .ref 205, .int x3], [.int (x3 + 2), .ref 0, .int (M 0 (x3 + 1).toNatClampNeg), .ref 16], hp nS M)) (am_cF_to (by with_unfolding_all rfl)) rfl (by with_unfolding_all rfl)).trans ?_
  show am_Wp _ 0 345 _ _ _ _ = _
  refine (eq_ald (e := (.iaload, 1, 0, 0, 0)) (by with_unfolding_all rfl) rfl (n := nS) (by with_unfolding_all rfl) h2).trans ?_
  show am_Wp _ 0 346 _ _ _ _ = _
  refine (eq_step (e := (.aload_n 0, 1, 0, 0, 0)) (q := (347, [.ref 0, .ref 16, .ref 205, .int x3], [.ref 0, .int (M 0 (x3 + 2).toNatClampNeg), .int (M 0 (x3 + 1).toNatClampNeg), .ref 16], hp nS M)) (am_cF_to (by with_unfolding_all rfl)) rfl (by with_unfolding_all rfl)).trans ?_
  show am_Wp _ 0 347 _ _ _ _ = _
  refine (eq_step (e := (.iload_n 3, 1, 0, 0, 0)) (q := (348, [.ref 0, .ref 16, .ref 205, .int x3], [.int x3, .ref 0, .int (M 0 (x3 + 2).toNatClampNeg), .int (M 0 (x3 + 1).toNatClampNeg), .ref 16], hp nS M)) (am_cF_to (by with_unfolding_all rfl)) rfl (by with_unfolding_all rfl)).trans ?_
  show am_Wp _ 0 348 _ _ _ _ = _
  refine (eq_step (e := (.iconst 3, 1, 0, 0, 0)) (q := (349, [.ref 0, .ref 16, .ref 205, .int x3], [.int 3, .int x3, .ref 0, .int (M 0 (x3 + 2).toNatClampNeg), .int (M 0 (x3 + 1).toNatClampNeg), .ref 16], hp nS M)) (am_cF_to (by with_unfolding_all rfl)) rfl (by with_unfolding_all rfl)).trans ?_
  show am_Wp _ 0 349 _ _ _ _ = _
  refine (eq_step (e := (.iadd, 1, 0, 0, 0)) (q := (350, [.ref 0, .ref 16, .ref 205, .int x3], [.int (x3 + 3), .ref 0, .int (M 0 (x3 + 2).toNatClampNeg), .int (M 0 (x3 + 1).toNatClampNeg), .ref 16], hp nS M)) (am_cF_to (by with_unfolding_all rfl)) rfl (by with_unfolding_all rfl)).trans ?_
  show am_Wp _ 0 350 _ _ _ _ = _
  refine (eq_ald (e := (.iaload, 1, 0, 0, 0)) (by with_unfolding_all rfl) rfl (n := nS) (by with_unfolding_all rfl) h3).trans ?_
  show am_Wp _ 0 351 _ _ _ _ = _
  exact eq_call2 (e := (.invokevirtual 35, 3, 0, 129, 207)) (as := [.ref 16, .int (M 0 (x3 + 1).toNatClampNeg), .int (M 0 (x3 + 2).toNatClampNeg), .int (M 0 (x3 + 3).toNatClampNeg)]) (r := []) (n := 4) (m := 5) (by with_unfolding_all rfl) rfl (by decide) (by with_unfolding_all rfl) (by decide) (by with_unfolding_all rfl) ⟨fun _ => am_rec_ok (c := 13) (by with_unfolding_all rfl) (by decide +kernel), fun z => by simp at z⟩
set_option maxRecDepth 20000 in
theorem b_0_354 {d nS : Nat} {x3 s0 : Int32} {M : am_M} {Q : Option Value → am_H → Prop} (h1 : vp_in (x3 + 1) nS) (h2 : vp_in (x3 + 2) nS) (h3 : vp_in (x3 + 3) nS) : am_Wp (d + 1) 0 354 [.ref 0, .ref 16, .ref 205, .int x3] [.int s0] (hp nS M) Q = am_Wp d 218 0 [.ref 205, .int (M 0 (x3 + 1).toNatClampNeg), .int (M 0 (x3 + 2).toNatClampNeg), .int (M 0 (x3 + 3).toNatClampNeg)] [] (hp nS M) (fun v h1 => am_Wp (d + 1) 0 373 [.ref 0, .ref 16, .ref 205, .int x3] (am_ans v [.int s0]) h1 Q) := by
  refine (eq_step (e := (.aload_n 2, 1, 0, 0, 0)) (q := (355, [.ref 0, .ref 16, .ref 205, .int x3], [.ref 205, .int s0], hp nS M)) (am_cF_to (by with_unfolding_all rfl)) rfl (by with_unfolding_all rfl)).trans ?_
  show am_Wp _ 0 355 _ _ _ _ = _
  refine (eq_step (e := (.aload_n 0, 1, 0, 0, 0)) (q := (356, [.ref 0, .ref 16, .ref 205, .int x3], [.ref 0, .ref 205, .int s0], hp nS M)) (am_cF_to (by with_unfolding_all rfl)) rfl (by with_unfolding_all rfl)).trans ?_
  show am_Wp _ 0 356 _ _ _ _ = _
  refine (eq_step (e := (.iload_n 3, 1, 0, 0, 0)) (q := (357, [.ref 0, .ref 16, .ref 205, .int x3], [.int x3, .ref 0, .ref 205, .int s0], hp nS M)) (am_cF_to (by with_unfolding_all rfl)) rfl (by with_unfolding_all rfl)).trans ?_
  show am_Wp _ 0 357 _ _ _ _ = _
  refine (eq_step (e := (.iconst 1, 1, 0, 0, 0)) (q := (358, [.ref 0, .ref 16, .ref 205, .int x3], [.int 1, .int x3, .ref 0, .ref 205, .int s0], hp nS M)) (am_cF_to (by with_unfolding_all rfl)) rfl (by with_unfolding_all rfl)).trans ?_
  show am_Wp _ 0 358 _ _ _ _ = _
  refine (eq_step (e := (.iadd, 1, 0, 0, 0)) (q := (359, [.ref 0, .ref 16, .ref 205, .int x3], [.int (x3 + 1), .ref 0, .ref 205, .int s0], hp nS M)) (am_cF_to (by with_unfolding_all rfl)) rfl (by with_unfolding_all rfl)).trans ?_
  show am_Wp _ 0 359 _ _ _ _ = _
  refine (eq_ald (e := (.iaload, 1, 0, 0, 0)) (by with_unfolding_all rfl) rfl (n := nS) (by with_unfolding_all rfl) h1).trans ?_
  show am_Wp _ 0 360 _ _ _ _ = _
  refine (eq_step (e := (.aload_n 0, 1, 0, 0, 0)) (q := (361, [.ref 0, .ref 16, .ref 205, .int x3], [.ref 0, .int (M 0 (x3 + 1).toNatClampNeg), .ref 205, .int s0], hp nS M)) (am_cF_to (by with_unfolding_all rfl)) rfl (by with_unfolding_all rfl)).trans ?_
  show am_Wp _ 0 361 _ _ _ _ = _
  refine (eq_step (e := (.iload_n 3, 1, 0, 0, 0)) (q := (362, [.ref 0, .ref 16, .ref 205, .int x3], [.int x3, .ref 0, .int (M 0 (x3 + 1).toNatClampNeg), .ref 205, .int s0], hp nS M)) (am_cF_to (by with_unfolding_all rfl)) rfl (by with_unfolding_all rfl)).trans ?_
  show am_Wp _ 0 362 _ _ _ _ = _
  refine (eq_step (e := (.iconst 2, 1, 0, 0, 0)) (q := (363, [.ref 0, .ref 16, .ref 205, .int x3], [.int 2, .int x3, .ref 0, .int (M 0 (x3 + 1).toNatClampNeg), .ref 205, .int s0], hp nS M)) (am_cF_to (by with_unfolding_all rfl)) rfl (by with_unfolding_all rfl)).trans ?_
  show am_Wp _ 0 363 _ _ _ _ = _
  refine (eq_step (e := (.iadd, 1, 0, 0, 0)) (q := (364, [.ref 0, .ref 16, .ref 205, .int x3], [.int (x3 + 2), .ref 0, .int (M 0 (x3 + 1).toNatClampNeg), .ref 205, .int s0], hp nS M)) (am_cF_to (by with_unfolding_all rfl)) rfl (by with_unfolding_all rfl)).trans ?_
  show am_Wp _ 0 364 _ _ _ _ = _
  refine (eq_ald (e := (.iaload, 1, 0, 0, 0)) (by with_unfolding_all rfl) rfl (n := nS) (by with_unfolding_all rfl) h2).trans ?_
  show am_Wp _ 0 365 _ _ _ _ = _
  refine (eq_step (e := (.aload_n 0, 1, 0, 0, 0)) (q := (366, [.ref 0, .ref 16, .ref 205, .int x3], [.ref 0, .int (M 0 (x3 + 2).toNatClampNeg), .int (M 0 (x3 + 1).toNatClampNeg), .ref 205, .int s0], hp nS M)) (am_cF_to (by with_unfolding_all rfl)) rfl (by with_unfolding_all rfl)).trans ?_
  show am_Wp _ 0 366 _ _ _ _ = _
  refine (eq_step (e := (.iload_n 3, 1, 0, 0, 0)) (q := (367, [.ref 0, .ref 16, .ref 205, .int x3], [.int x3, .ref 0, .int (M 0 (x3 + 2).toNatClampNeg), .int (M 0 (x3 + 1).toNatClampNeg), .ref 205, .int s0], hp nS M)) (am_cF_to (by with_unfolding_all rfl)) rfl (by with_unfolding_all rfl)).trans ?_
  show am_Wp _ 0 367 _ _ _ _ = _
  refine (eq_step (e := (.iconst 3, 1, 0, 0, 0)) (q := (368, [.ref 0, .ref 16, .ref 205, .int x3], [.int 3, .int x3, .ref 0, .int (M 0 (x3 + 2).toNatClampNeg), .int (M 0 (x3 + 1).toNatClampNeg), .ref 205, .int s0], hp nS M)) (am_cF_to (by with_unfolding_all rfl)) rfl (by with_unfolding_all rfl)).trans ?_
  show am_Wp _ 0 368 _ _ _ _ = _
  refine (eq_step (e := (.iadd, 1, 0, 0, 0)) (q := (369, [.ref 0, .ref 16, .ref 205, .int x3], [.int (x3 + 3), .ref 0, .int (M 0 (x3 + 2).toNatClampNeg), .int (M 0 (x3 + 1).toNatClampNeg), .ref 205, .int s0], hp nS M)) (am_cF_to (by with_unfolding_all rfl)) rfl (by with_unfolding_all rfl)).trans ?_
  show am_Wp _ 0 369 _ _ _ _ = _
  refine (eq_ald (e := (.iaload, 1, 0, 0, 0)) (by with_unfolding_all rfl) rfl (n := nS) (by with_unfolding_all rfl) h3).trans ?_
  show am_Wp _ 0 370 _ _ _ _ = _
  exact eq_call2 (e := (.invokevirtual 38, 3, 0, 218, 208)) (as := [.ref 205, .int (M 0 (x3 + 1).toNatClampNeg), .int (M 0 (x3 + 2).toNatClampNeg), .int (M 0 (x3 + 3).toNatClampNeg)]) (r := [.int s0]) (n := 4) (m := 4) (by with_unfolding_all rfl) rfl (by decide) (by with_unfolding_all rfl) (by decide) (by with_unfolding_all rfl) ⟨fun _ => am_rec_ok (c := 14) (by with_unfolding_all rfl) (by decide +kernel), fun z => by simp at z⟩
set_option maxRecDepth 20000 in
theorem b_0_373 {d nS : Nat} {x3 s0 s1 : Int32} {M : am_M} {Q : Option Value → am_H → Prop} : am_Wp d 0 373 [.ref 0, .ref 16, .ref 205, .int x3] [.int s1, .int s0] (hp nS M) Q = if s0 = s1 then am_Wp d 0 1410 [.ref 0, .ref 16, .ref 205, .int x3] [] (hp nS M) Q else am_Wp d 0 376 [.ref 0, .ref 16, .ref 205, .int x3] [] (hp nS M) Q := by
  exact eq_cmp_eq (by with_unfolding_all rfl)
set_option maxRecDepth 20000 in
theorem b_0_376 {d nS : Nat} {x3 : Int32} {M : am_M} {Q : Option Value → am_H → Prop} : am_Wp d 0 376 [.ref 0, .ref 16, .ref 205, .int x3] [] (hp nS M) Q = Q (some (.int 0)) (hp nS M) := by
  refine (eq_step (e := (.iconst 0, 1, 0, 0, 0)) (q := (377, [.ref 0, .ref 16, .ref 205, .int x3], [.int 0], hp nS M)) (am_cF_to (by with_unfolding_all rfl)) rfl (by with_unfolding_all rfl)).trans ?_
  show am_Wp _ 0 377 _ _ _ _ = _
  exact eq_retI2 (e := (.ireturn, 1, 0, 0, 0)) (t := .boolean) (by with_unfolding_all rfl) rfl (by with_unfolding_all rfl) rfl
set_option maxRecDepth 20000 in
theorem b_0_378 {d nS : Nat} {x3 : Int32} {M : am_M} {Q : Option Value → am_H → Prop} (h1 : vp_in (x3 + 1) nS) : am_Wp (d + 1) 0 378 [.ref 0, .ref 16, .ref 205, .int x3] [] (hp nS M) Q = am_Wp d 132 0 [.ref 16, .int (M 0 (x3 + 1).toNatClampNeg), .retAddr 0, .retAddr 0, .retAddr 0] [] (hp nS M) (fun v h1 => am_Wp (d + 1) 0 387 [.ref 0, .ref 16, .ref 205, .int x3] (am_ans v []) h1 Q) := by
  refine (eq_step (e := (.aload_n 1, 1, 0, 0, 0)) (q := (379, [.ref 0, .ref 16, .ref 205, .int x3], [.ref 16], hp nS M)) (am_cF_to (by with_unfolding_all rfl)) rfl (by with_unfolding_all rfl)).trans ?_
  show am_Wp _ 0 379 _ _ _ _ = _
  refine (eq_step (e := (.aload_n 0, 1, 0, 0, 0)) (q := (380, [.ref 0, .ref 16, .ref 205, .int x3], [.ref 0, .ref 16], hp nS M)) (am_cF_to (by with_unfolding_all rfl)) rfl (by with_unfolding_all rfl)).trans ?_
  show am_Wp _ 0 380 _ _ _ _ = _
  refine (eq_step (e := (.iload_n 3, 1, 0, 0, 0)) (q := (381, [.ref 0, .ref 16, .ref 205, .int x3], [.int x3, .ref 0, .ref 16], hp nS M)) (am_cF_to (by with_unfolding_all rfl)) rfl (by with_unfolding_all rfl)).trans ?_
  show am_Wp _ 0 381 _ _ _ _ = _
  refine (eq_step (e := (.iconst 1, 1, 0, 0, 0)) (q := (382, [.ref 0, .ref 16, .ref 205, .int x3], [.int 1, .int x3, .ref 0, .ref 16], hp nS M)) (am_cF_to (by with_unfolding_all rfl)) rfl (by with_unfolding_all rfl)).trans ?_
  show am_Wp _ 0 382 _ _ _ _ = _
  refine (eq_step (e := (.iadd, 1, 0, 0, 0)) (q := (383, [.ref 0, .ref 16, .ref 205, .int x3], [.int (x3 + 1), .ref 0, .ref 16], hp nS M)) (am_cF_to (by with_unfolding_all rfl)) rfl (by with_unfolding_all rfl)).trans ?_
  show am_Wp _ 0 383 _ _ _ _ = _
  refine (eq_ald (e := (.iaload, 1, 0, 0, 0)) (by with_unfolding_all rfl) rfl (n := nS) (by with_unfolding_all rfl) h1).trans ?_
  show am_Wp _ 0 384 _ _ _ _ = _
  exact eq_call2 (e := (.invokevirtual 39, 3, 0, 132, 209)) (as := [.ref 16, .int (M 0 (x3 + 1).toNatClampNeg)]) (r := []) (n := 2) (m := 5) (by with_unfolding_all rfl) rfl (by decide) (by with_unfolding_all rfl) (by decide) (by with_unfolding_all rfl) ⟨fun _ => am_rec_ok (c := 13) (by with_unfolding_all rfl) (by decide +kernel), fun z => by simp at z⟩
set_option maxRecDepth 20000 in
theorem b_0_387 {d nS : Nat} {x3 s0 : Int32} {M : am_M} {Q : Option Value → am_H → Prop} (h1 : vp_in (x3 + 1) nS) : am_Wp (d + 1) 0 387 [.ref 0, .ref 16, .ref 205, .int x3] [.int s0] (hp nS M) Q = am_Wp d 228 0 [.ref 205, .int (M 0 (x3 + 1).toNatClampNeg), .retAddr 0, .retAddr 0] [] (hp nS M) (fun v h1 => am_Wp (d + 1) 0 396 [.ref 0, .ref 16, .ref 205, .int x3] (am_ans v [.int s0]) h1 Q) := by
  refine (eq_step (e := (.aload_n 2, 1, 0, 0, 0)) (q := (388, [.ref 0, .ref 16, .ref 205, .int x3], [.ref 205, .int s0], hp nS M)) (am_cF_to (by with_unfolding_all rfl)) rfl (by with_unfolding_all rfl)).trans ?_
  show am_Wp _ 0 388 _ _ _ _ = _
  refine (eq_step (e := (.aload_n 0, 1, 0, 0, 0)) (q := (389, [.ref 0, .ref 16, .ref 205, .int x3], [.ref 0, .ref 205, .int s0], hp nS M)) (am_cF_to (by with_unfolding_all rfl)) rfl (by with_unfolding_all rfl)).trans ?_
  show am_Wp _ 0 389 _ _ _ _ = _
  refine (eq_step (e := (.iload_n 3, 1, 0, 0, 0)) (q := (390, [.ref 0, .ref 16, .ref 205, .int x3], [.int x3, .ref 0, .ref 205, .int s0], hp nS M)) (am_cF_to (by with_unfolding_all rfl)) rfl (by with_unfolding_all rfl)).trans ?_
  show am_Wp _ 0 390 _ _ _ _ = _
  refine (eq_step (e := (.iconst 1, 1, 0, 0, 0)) (q := (391, [.ref 0, .ref 16, .ref 205, .int x3], [.int 1, .int x3, .ref 0, .ref 205, .int s0], hp nS M)) (am_cF_to (by with_unfolding_all rfl)) rfl (by with_unfolding_all rfl)).trans ?_
  show am_Wp _ 0 391 _ _ _ _ = _
  refine (eq_step (e := (.iadd, 1, 0, 0, 0)) (q := (392, [.ref 0, .ref 16, .ref 205, .int x3], [.int (x3 + 1), .ref 0, .ref 205, .int s0], hp nS M)) (am_cF_to (by with_unfolding_all rfl)) rfl (by with_unfolding_all rfl)).trans ?_
  show am_Wp _ 0 392 _ _ _ _ = _
  refine (eq_ald (e := (.iaload, 1, 0, 0, 0)) (by with_unfolding_all rfl) rfl (n := nS) (by with_unfolding_all rfl) h1).trans ?_
  show am_Wp _ 0 393 _ _ _ _ = _
  exact eq_call2 (e := (.invokevirtual 42, 3, 0, 228, 210)) (as := [.ref 205, .int (M 0 (x3 + 1).toNatClampNeg)]) (r := [.int s0]) (n := 2) (m := 4) (by with_unfolding_all rfl) rfl (by decide) (by with_unfolding_all rfl) (by decide) (by with_unfolding_all rfl) ⟨fun _ => am_rec_ok (c := 14) (by with_unfolding_all rfl) (by decide +kernel), fun z => by simp at z⟩
set_option maxRecDepth 20000 in
theorem b_0_396 {d nS : Nat} {x3 s0 s1 : Int32} {M : am_M} {Q : Option Value → am_H → Prop} : am_Wp d 0 396 [.ref 0, .ref 16, .ref 205, .int x3] [.int s1, .int s0] (hp nS M) Q = if s0 = s1 then am_Wp d 0 1410 [.ref 0, .ref 16, .ref 205, .int x3] [] (hp nS M) Q else am_Wp d 0 399 [.ref 0, .ref 16, .ref 205, .int x3] [] (hp nS M) Q := by
  exact eq_cmp_eq (by with_unfolding_all rfl)
set_option maxRecDepth 20000 in
theorem b_0_399 {d nS : Nat} {x3 : Int32} {M : am_M} {Q : Option Value → am_H → Prop} : am_Wp d 0 399 [.ref 0, .ref 16, .ref 205, .int x3] [] (hp nS M) Q = Q (some (.int 0)) (hp nS M) := by
  refine (eq_step (e := (.iconst 0, 1, 0, 0, 0)) (q := (400, [.ref 0, .ref 16, .ref 205, .int x3], [.int 0], hp nS M)) (am_cF_to (by with_unfolding_all rfl)) rfl (by with_unfolding_all rfl)).trans ?_
  show am_Wp _ 0 400 _ _ _ _ = _
  exact eq_retI2 (e := (.ireturn, 1, 0, 0, 0)) (t := .boolean) (by with_unfolding_all rfl) rfl (by with_unfolding_all rfl) rfl
set_option maxRecDepth 20000 in
theorem b_0_401 {d nS : Nat} {x3 : Int32} {M : am_M} {Q : Option Value → am_H → Prop} (h1 : vp_in (x3 + 1) nS) (h2 : vp_in (x3 + 2) nS) (h3 : vp_in (x3 + 3) nS) (h4 : vp_in (x3 + 4) nS) (h5 : vp_in (x3 + 5) nS) : am_Wp (d + 1) 0 401 [.ref 0, .ref 16, .ref 205, .int x3] [] (hp nS M) Q = am_Wp d 133 0 [.ref 16, .int (M 0 (x3 + 1).toNatClampNeg), .int (M 0 (x3 + 2).toNatClampNeg), .int (M 0 (x3 + 3).toNatClampNeg), .int (M 0 (x3 + 4).toNatClampNeg), .int (M 0 (x3 + 5).toNatClampNeg)] [] (hp nS M) (fun v h1 => am_Wp (d + 1) 0 430 [.ref 0, .ref 16, .ref 205, .int x3] (am_ans v []) h1 Q) := by
  refine (eq_step (e := (.aload_n 1, 1, 0, 0, 0)) (q := (402, [.ref 0, .ref 16, .ref 205, .int x3], [.ref 16], hp nS M)) (am_cF_to (by with_unfolding_all rfl)) rfl (by with_unfolding_all rfl)).trans ?_
  show am_Wp _ 0 402 _ _ _ _ = _
  refine (eq_step (e := (.aload_n 0, 1, 0, 0, 0)) (q := (403, [.ref 0, .ref 16, .ref 205, .int x3], [.ref 0, .ref 16], hp nS M)) (am_cF_to (by with_unfolding_all rfl)) rfl (by with_unfolding_all rfl)).trans ?_
  show am_Wp _ 0 403 _ _ _ _ = _
  refine (eq_step (e := (.iload_n 3, 1, 0, 0, 0)) (q := (404, [.ref 0, .ref 16, .ref 205, .int x3], [.int x3, .ref 0, .ref 16], hp nS M)) (am_cF_to (by with_unfolding_all rfl)) rfl (by with_unfolding_all rfl)).trans ?_
  show am_Wp _ 0 404 _ _ _ _ = _
  refine (eq_step (e := (.iconst 1, 1, 0, 0, 0)) (q := (405, [.ref 0, .ref 16, .ref 205, .int x3], [.int 1, .int x3, .ref 0, .ref 16], hp nS M)) (am_cF_to (by with_unfolding_all rfl)) rfl (by with_unfolding_all rfl)).trans ?_
  show am_Wp _ 0 405 _ _ _ _ = _
  refine (eq_step (e := (.iadd, 1, 0, 0, 0)) (q := (406, [.ref 0, .ref 16, .ref 205, .int x3], [.int (x3 + 1), .ref 0, .ref 16], hp nS M)) (am_cF_to (by with_unfolding_all rfl)) rfl (by with_unfolding_all rfl)).trans ?_
  show am_Wp _ 0 406 _ _ _ _ = _
  refine (eq_ald (e := (.iaload, 1, 0, 0, 0)) (by with_unfolding_all rfl) rfl (n := nS) (by with_unfolding_all rfl) h1).trans ?_
  show am_Wp _ 0 407 _ _ _ _ = _
  refine (eq_step (e := (.aload_n 0, 1, 0, 0, 0)) (q := (408, [.ref 0, .ref 16, .ref 205, .int x3], [.ref 0, .int (M 0 (x3 + 1).toNatClampNeg), .ref 16], hp nS M)) (am_cF_to (by with_unfolding_all rfl)) rfl (by with_unfolding_all rfl)).trans ?_
  show am_Wp _ 0 408 _ _ _ _ = _
  refine (eq_step (e := (.iload_n 3, 1, 0, 0, 0)) (q := (409, [.ref 0, .ref 16, .ref 205, .int x3], [.int x3, .ref 0, .int (M 0 (x3 + 1).toNatClampNeg), .ref 16], hp nS M)) (am_cF_to (by with_unfolding_all rfl)) rfl (by with_unfolding_all rfl)).trans ?_
  show am_Wp _ 0 409 _ _ _ _ = _
  refine (eq_step (e := (.iconst 2, 1, 0, 0, 0)) (q := (410, [.ref 0, .ref 16, .ref 205, .int x3], [.int 2, .int x3, .ref 0, .int (M 0 (x3 + 1).toNatClampNeg), .ref 16], hp nS M)) (am_cF_to (by with_unfolding_all rfl)) rfl (by with_unfolding_all rfl)).trans ?_
  show am_Wp _ 0 410 _ _ _ _ = _
  refine (eq_step (e := (.iadd, 1, 0, 0, 0)) (q := (411, [.ref 0, .ref 16, .ref 205, .int x3], [.int (x3 + 2), .ref 0, .int (M 0 (x3 + 1).toNatClampNeg), .ref 16], hp nS M)) (am_cF_to (by with_unfolding_all rfl)) rfl (by with_unfolding_all rfl)).trans ?_
  show am_Wp _ 0 411 _ _ _ _ = _
  refine (eq_ald (e := (.iaload, 1, 0, 0, 0)) (by with_unfolding_all rfl) rfl (n := nS) (by with_unfolding_all rfl) h2).trans ?_
  show am_Wp _ 0 412 _ _ _ _ = _
  refine (eq_step (e := (.aload_n 0, 1, 0, 0, 0)) (q := (413, [.ref 0, .ref 16, .ref 205, .int x3], [.ref 0, .int (M 0 (x3 + 2).toNatClampNeg), .int (M 0 (x3 + 1).toNatClampNeg), .ref 16], hp nS M)) (am_cF_to (by with_unfolding_all rfl)) rfl (by with_unfolding_all rfl)).trans ?_
  show am_Wp _ 0 413 _ _ _ _ = _
  refine (eq_step (e := (.iload_n 3, 1, 0, 0, 0)) (q := (414, [.ref 0, .ref 16, .ref 205, .int x3], [.int x3, .ref 0, .int (M 0 (x3 + 2).toNatClampNeg), .int (M 0 (x3 + 1).toNatClampNeg), .ref 16], hp nS M)) (am_cF_to (by with_unfolding_all rfl)) rfl (by with_unfolding_all rfl)).trans ?_
  show am_Wp _ 0 414 _ _ _ _ = _
  refine (eq_step (e := (.iconst 3, 1, 0, 0, 0)) (q := (415, [.ref 0, .ref 16, .ref 205, .int x3], [.int 3, .int x3, .ref 0, .int (M 0 (x3 + 2).toNatClampNeg), .int (M 0 (x3 + 1).toNatClampNeg), .ref 16], hp nS M)) (am_cF_to (by with_unfolding_all rfl)) rfl (by with_unfolding_all rfl)).trans ?_
  show am_Wp _ 0 415 _ _ _ _ = _
  refine (eq_step (e := (.iadd, 1, 0, 0, 0)) (q := (416, [.ref 0, .ref 16, .ref 205, .int x3], [.int (x3 + 3), .ref 0, .int (M 0 (x3 + 2).toNatClampNeg), .int (M 0 (x3 + 1).toNatClampNeg), .ref 16], hp nS M)) (am_cF_to (by with_unfolding_all rfl)) rfl (by with_unfolding_all rfl)).trans ?_
  show am_Wp _ 0 416 _ _ _ _ = _
  refine (eq_ald (e := (.iaload, 1, 0, 0, 0)) (by with_unfolding_all rfl) rfl (n := nS) (by with_unfolding_all rfl) h3).trans ?_
  show am_Wp _ 0 417 _ _ _ _ = _
  refine (eq_step (e := (.aload_n 0, 1, 0, 0, 0)) (q := (418, [.ref 0, .ref 16, .ref 205, .int x3], [.ref 0, .int (M 0 (x3 + 3).toNatClampNeg), .int (M 0 (x3 + 2).toNatClampNeg), .int (M 0 (x3 + 1).toNatClampNeg), .ref 16], hp nS M)) (am_cF_to (by with_unfolding_all rfl)) rfl (by with_unfolding_all rfl)).trans ?_
  show am_Wp _ 0 418 _ _ _ _ = _
  refine (eq_step (e := (.iload_n 3, 1, 0, 0, 0)) (q := (419, [.ref 0, .ref 16, .ref 205, .int x3], [.int x3, .ref 0, .int (M 0 (x3 + 3).toNatClampNeg), .int (M 0 (x3 + 2).toNatClampNeg), .int (M 0 (x3 + 1).toNatClampNeg), .ref 16], hp nS M)) (am_cF_to (by with_unfolding_all rfl)) rfl (by with_unfolding_all rfl)).trans ?_
  show am_Wp _ 0 419 _ _ _ _ = _
  refine (eq_step (e := (.iconst 4, 1, 0, 0, 0)) (q := (420, [.ref 0, .ref 16, .ref 205, .int x3], [.int 4, .int x3, .ref 0, .int (M 0 (x3 + 3).toNatClampNeg), .int (M 0 (x3 + 2).toNatClampNeg), .int (M 0 (x3 + 1).toNatClampNeg), .ref 16], hp nS M)) (am_cF_to (by with_unfolding_all rfl)) rfl (by with_unfolding_all rfl)).trans ?_
  show am_Wp _ 0 420 _ _ _ _ = _
  refine (eq_step (e := (.iadd, 1, 0, 0, 0)) (q := (421, [.ref 0, .ref 16, .ref 205, .int x3], [.int (x3 + 4), .ref 0, .int (M 0 (x3 + 3).toNatClampNeg), .int (M 0 (x3 + 2).toNatClampNeg), .int (M 0 (x3 + 1).toNatClampNeg), .ref 16], hp nS M)) (am_cF_to (by with_unfolding_all rfl)) rfl (by with_unfolding_all rfl)).trans ?_
  show am_Wp _ 0 421 _ _ _ _ = _
  refine (eq_ald (e := (.iaload, 1, 0, 0, 0)) (by with_unfolding_all rfl) rfl (n := nS) (by with_unfolding_all rfl) h4).trans ?_
  show am_Wp _ 0 422 _ _ _ _ = _
  refine (eq_step (e := (.aload_n 0, 1, 0, 0, 0)) (q := (423, [.ref 0, .ref 16, .ref 205, .int x3], [.ref 0, .int (M 0 (x3 + 4).toNatClampNeg), .int (M 0 (x3 + 3).toNatClampNeg), .int (M 0 (x3 + 2).toNatClampNeg), .int (M 0 (x3 + 1).toNatClampNeg), .ref 16], hp nS M)) (am_cF_to (by with_unfolding_all rfl)) rfl (by with_unfolding_all rfl)).trans ?_
  show am_Wp _ 0 423 _ _ _ _ = _
  refine (eq_step (e := (.iload_n 3, 1, 0, 0, 0)) (q := (424, [.ref 0, .ref 16, .ref 205, .int x3], [.int x3, .ref 0, .int (M 0 (x3 + 4).toNatClampNeg), .int (M 0 (x3 + 3).toNatClampNeg), .int (M 0 (x3 + 2).toNatClampNeg), .int (M 0 (x3 + 1).toNatClampNeg), .ref 16], hp nS M)) (am_cF_to (by with_unfolding_all rfl)) rfl (by with_unfolding_all rfl)).trans ?_
  show am_Wp _ 0 424 _ _ _ _ = _
  refine (eq_step (e := (.iconst 5, 1, 0, 0, 0)) (q := (425, [.ref 0, .ref 16, .ref 205, .int x3], [.int 5, .int x3, .ref 0, .int (M 0 (x3 + 4).toNatClampNeg), .int (M 0 (x3 + 3).toNatClampNeg), .int (M 0 (x3 + 2).toNatClampNeg), .int (M 0 (x3 + 1).toNatClampNeg), .ref 16], hp nS M)) (am_cF_to (by with_unfolding_all rfl)) rfl (by with_unfolding_all rfl)).trans ?_
  show am_Wp _ 0 425 _ _ _ _ = _
  refine (eq_step (e := (.iadd, 1, 0, 0, 0)) (q := (426, [.ref 0, .ref 16, .ref 205, .int x3], [.int (x3 + 5), .ref 0, .int (M 0 (x3 + 4).toNatClampNeg), .int (M 0 (x3 + 3).toNatClampNeg), .int (M 0 (x3 + 2).toNatClampNeg), .int (M 0 (x3 + 1).toNatClampNeg), .ref 16], hp nS M)) (am_cF_to (by with_unfolding_all rfl)) rfl (by with_unfolding_all rfl)).trans ?_
  show am_Wp _ 0 426 _ _ _ _ = _
  refine (eq_ald (e := (.iaload, 1, 0, 0, 0)) (by with_unfolding_all rfl) rfl (n := nS) (by with_unfolding_all rfl) h5).trans ?_
  show am_Wp _ 0 427 _ _ _ _ = _
  exact eq_call2 (e := (.invokevirtual 43, 3, 0, 133, 211)) (as := [.ref 16, .int (M 0 (x3 + 1).toNatClampNeg), .int (M 0 (x3 + 2).toNatClampNeg), .int (M 0 (x3 + 3).toNatClampNeg), .int (M 0 (x3 + 4).toNatClampNeg), .int (M 0 (x3 + 5).toNatClampNeg)]) (r := []) (n := 6) (m := 6) (by with_unfolding_all rfl) rfl (by decide) (by with_unfolding_all rfl) (by decide) (by with_unfolding_all rfl) ⟨fun _ => am_rec_ok (c := 13) (by with_unfolding_all rfl) (by decide +kernel), fun z => by simp at z⟩
set_option maxRecDepth 20000 in
theorem b_0_430 {d nS : Nat} {x3 s0 : Int32} {M : am_M} {Q : Option Value → am_H → Prop} (h1 : vp_in (x3 + 1) nS) (h2 : vp_in (x3 + 2) nS) (h3 : vp_in (x3 + 3) nS) (h4 : vp_in (x3 + 4) nS) (h5 : vp_in (x3 + 5) nS) : am_Wp (d + 1) 0 430 [.ref 0, .ref 16, .ref 205, .int x3] [.int s0] (hp nS M) Q = am_Wp d 180 0 [.ref 205, .int (M 0 (x3 + 1).toNatClampNeg), .int (M 0 (x3 + 2).toNatClampNeg), .int (M 0 (x3 + 3).toNatClampNeg), .int (M 0 (x3 + 4).toNatClampNeg), .int (M 0 (x3 + 5).toNatClampNeg)] [] (hp nS M) (fun v h1 => am_Wp (d + 1) 0 459 [.ref 0, .ref 16, .ref 205, .int x3] (am_ans v [.int s0]) h1 Q) := by
  refine (eq_step (e := (.aload_n 2, 1, 0, 0, 0)) (q := (431, [.ref 0, .ref 16, .ref 205, .int x3], [.ref 205, .int s0], hp nS M)) (am_cF_to (by with_unfolding_all rfl)) rfl (by with_unfolding_all rfl)).trans ?_
  show am_Wp _ 0 431 _ _ _ _ = _
  refine (eq_step (e := (.aload_n 0, 1, 0, 0, 0)) (q := (432, [.ref 0, .ref 16, .ref 205, .int x3], [.ref 0, .ref 205, .int s0], hp nS M)) (am_cF_to (by with_unfolding_all rfl)) rfl (by with_unfolding_all rfl)).trans ?_
  show am_Wp _ 0 432 _ _ _ _ = _
  refine (eq_step (e := (.iload_n 3, 1, 0, 0, 0)) (q := (433, [.ref 0, .ref 16, .ref 205, .int x3], [.int x3, .ref 0, .ref 205, .int s0], hp nS M)) (am_cF_to (by with_unfolding_all rfl)) rfl (by with_unfolding_all rfl)).trans ?_
  show am_Wp _ 0 433 _ _ _ _ = _
  refine (eq_step (e := (.iconst 1, 1, 0, 0, 0)) (q := (434, [.ref 0, .ref 16, .ref 205, .int x3], [.int 1, .int x3, .ref 0, .ref 205, .int s0], hp nS M)) (am_cF_to (by with_unfolding_all rfl)) rfl (by with_unfolding_all rfl)).trans ?_
  show am_Wp _ 0 434 _ _ _ _ = _
  refine (eq_step (e := (.iadd, 1, 0, 0, 0)) (q := (435, [.ref 0, .ref 16, .ref 205, .int x3], [.int (x3 + 1), .ref 0, .ref 205, .int s0], hp nS M)) (am_cF_to (by with_unfolding_all rfl)) rfl (by with_unfolding_all rfl)).trans ?_
  show am_Wp _ 0 435 _ _ _ _ = _
  refine (eq_ald (e := (.iaload, 1, 0, 0, 0)) (by with_unfolding_all rfl) rfl (n := nS) (by with_unfolding_all rfl) h1).trans ?_
  show am_Wp _ 0 436 _ _ _ _ = _
  refine (eq_step (e := (.aload_n 0, 1, 0, 0, 0)) (q := (437, [.ref 0, .ref 16, .ref 205, .int x3], [.ref 0, .int (M 0 (x3 + 1).toNatClampNeg), .ref 205, .int s0], hp nS M)) (am_cF_to (by with_unfolding_all rfl)) rfl (by with_unfolding_all rfl)).trans ?_
  show am_Wp _ 0 437 _ _ _ _ = _
  refine (eq_step (e := (.iload_n 3, 1, 0, 0, 0)) (q := (438, [.ref 0, .ref 16, .ref 205, .int x3], [.int x3, .ref 0, .int (M 0 (x3 + 1).toNatClampNeg), .ref 205, .int s0], hp nS M)) (am_cF_to (by with_unfolding_all rfl)) rfl (by with_unfolding_all rfl)).trans ?_
  show am_Wp _ 0 438 _ _ _ _ = _
  refine (eq_step (e := (.iconst 2, 1, 0, 0, 0)) (q := (439, [.ref 0, .ref 16, .ref 205, .int x3], [.int 2, .int x3, .ref 0, .int (M 0 (x3 + 1).toNatClampNeg), .ref 205, .int s0], hp nS M)) (am_cF_to (by with_unfolding_all rfl)) rfl (by with_unfolding_all rfl)).trans ?_
  show am_Wp _ 0 439 _ _ _ _ = _
  refine (eq_step (e := (.iadd, 1, 0, 0, 0)) (q := (440, [.ref 0, .ref 16, .ref 205, .int x3], [.int (x3 + 2), .ref 0, .int (M 0 (x3 + 1).toNatClampNeg), .ref 205, .int s0], hp nS M)) (am_cF_to (by with_unfolding_all rfl)) rfl (by with_unfolding_all rfl)).trans ?_
  show am_Wp _ 0 440 _ _ _ _ = _
  refine (eq_ald (e := (.iaload, 1, 0, 0, 0)) (by with_unfolding_all rfl) rfl (n := nS) (by with_unfolding_all rfl) h2).trans ?_
  show am_Wp _ 0 441 _ _ _ _ = _
  refine (eq_step (e := (.aload_n 0, 1, 0, 0, 0)) (q := (442, [.ref 0, .ref 16, .ref 205, .int x3], [.ref 0, .int (M 0 (x3 + 2).toNatClampNeg), .int (M 0 (x3 + 1).toNatClampNeg), .ref 205, .int s0], hp nS M)) (am_cF_to (by with_unfolding_all rfl)) rfl (by with_unfolding_all rfl)).trans ?_
  show am_Wp _ 0 442 _ _ _ _ = _
  refine (eq_step (e := (.iload_n 3, 1, 0, 0, 0)) (q := (443, [.ref 0, .ref 16, .ref 205, .int x3], [.int x3, .ref 0, .int (M 0 (x3 + 2).toNatClampNeg), .int (M 0 (x3 + 1).toNatClampNeg), .ref 205, .int s0], hp nS M)) (am_cF_to (by with_unfolding_all rfl)) rfl (by with_unfolding_all rfl)).trans ?_
  show am_Wp _ 0 443 _ _ _ _ = _
  refine (eq_step (e := (.iconst 3, 1, 0, 0, 0)) (q := (444, [.ref 0, .ref 16, .ref 205, .int x3], [.int 3, .int x3, .ref 0, .int (M 0 (x3 + 2).toNatClampNeg), .int (M 0 (x3 + 1).toNatClampNeg), .ref 205, .int s0], hp nS M)) (am_cF_to (by with_unfolding_all rfl)) rfl (by with_unfolding_all rfl)).trans ?_
  show am_Wp _ 0 444 _ _ _ _ = _
  refine (eq_step (e := (.iadd, 1, 0, 0, 0)) (q := (445, [.ref 0, .ref 16, .ref 205, .int x3], [.int (x3 + 3), .ref 0, .int (M 0 (x3 + 2).toNatClampNeg), .int (M 0 (x3 + 1).toNatClampNeg), .ref 205, .int s0], hp nS M)) (am_cF_to (by with_unfolding_all rfl)) rfl (by with_unfolding_all rfl)).trans ?_
  show am_Wp _ 0 445 _ _ _ _ = _
  refine (eq_ald (e := (.iaload, 1, 0, 0, 0)) (by with_unfolding_all rfl) rfl (n := nS) (by with_unfolding_all rfl) h3).trans ?_
  show am_Wp _ 0 446 _ _ _ _ = _
  refine (eq_step (e := (.aload_n 0, 1, 0, 0, 0)) (q := (447, [.ref 0, .ref 16, .ref 205, .int x3], [.ref 0, .int (M 0 (x3 + 3).toNatClampNeg), .int (M 0 (x3 + 2).toNatClampNeg), .int (M 0 (x3 + 1).toNatClampNeg), .ref 205, .int s0], hp nS M)) (am_cF_to (by with_unfolding_all rfl)) rfl (by with_unfolding_all rfl)).trans ?_
  show am_Wp _ 0 447 _ _ _ _ = _
  refine (eq_step (e := (.iload_n 3, 1, 0, 0, 0)) (q := (448, [.ref 0, .ref 16, .ref 205, .int x3], [.int x3, .ref 0, .int (M 0 (x3 + 3).toNatClampNeg), .int (M 0 (x3 + 2).toNatClampNeg), .int (M 0 (x3 + 1).toNatClampNeg), .ref 205, .int s0], hp nS M)) (am_cF_to (by with_unfolding_all rfl)) rfl (by with_unfolding_all rfl)).trans ?_
  show am_Wp _ 0 448 _ _ _ _ = _
  refine (eq_step (e := (.iconst 4, 1, 0, 0, 0)) (q := (449, [.ref 0, .ref 16, .ref 205, .int x3], [.int 4, .int x3, .ref 0, .int (M 0 (x3 + 3).toNatClampNeg), .int (M 0 (x3 + 2).toNatClampNeg), .int (M 0 (x3 + 1).toNatClampNeg), .ref 205, .int s0], hp nS M)) (am_cF_to (by with_unfolding_all rfl)) rfl (by with_unfolding_all rfl)).trans ?_
  show am_Wp _ 0 449 _ _ _ _ = _
  refine (eq_step (e := (.iadd, 1, 0, 0, 0)) (q := (450, [.ref 0, .ref 16, .ref 205, .int x3], [.int (x3 + 4), .ref 0, .int (M 0 (x3 + 3).toNatClampNeg), .int (M 0 (x3 + 2).toNatClampNeg), .int (M 0 (x3 + 1).toNatClampNeg), .ref 205, .int s0], hp nS M)) (am_cF_to (by with_unfolding_all rfl)) rfl (by with_unfolding_all rfl)).trans ?_
  show am_Wp _ 0 450 _ _ _ _ = _
  refine (eq_ald (e := (.iaload, 1, 0, 0, 0)) (by with_unfolding_all rfl) rfl (n := nS) (by with_unfolding_all rfl) h4).trans ?_
  show am_Wp _ 0 451 _ _ _ _ = _
  refine (eq_step (e := (.aload_n 0, 1, 0, 0, 0)) (q := (452, [.ref 0, .ref 16, .ref 205, .int x3], [.ref 0, .int (M 0 (x3 + 4).toNatClampNeg), .int (M 0 (x3 + 3).toNatClampNeg), .int (M 0 (x3 + 2).toNatClampNeg), .int (M 0 (x3 + 1).toNatClampNeg), .ref 205, .int s0], hp nS M)) (am_cF_to (by with_unfolding_all rfl)) rfl (by with_unfolding_all rfl)).trans ?_
  show am_Wp _ 0 452 _ _ _ _ = _
  refine (eq_step (e := (.iload_n 3, 1, 0, 0, 0)) (q := (453, [.ref 0, .ref 16, .ref 205, .int x3], [.int x3, .ref 0, .int (M 0 (x3 + 4).toNatClampNeg), .int (M 0 (x3 + 3).toNatClampNeg), .int (M 0 (x3 + 2).toNatClampNeg), .int (M 0 (x3 + 1).toNatClampNeg), .ref 205, .int s0], hp nS M)) (am_cF_to (by with_unfolding_all rfl)) rfl (by with_unfolding_all rfl)).trans ?_
  show am_Wp _ 0 453 _ _ _ _ = _
  refine (eq_step (e := (.iconst 5, 1, 0, 0, 0)) (q := (454, [.ref 0, .ref 16, .ref 205, .int x3], [.int 5, .int x3, .ref 0, .int (M 0 (x3 + 4).toNatClampNeg), .int (M 0 (x3 + 3).toNatClampNeg), .int (M 0 (x3 + 2).toNatClampNeg), .int (M 0 (x3 + 1).toNatClampNeg), .ref 205, .int s0], hp nS M)) (am_cF_to (by with_unfolding_all rfl)) rfl (by with_unfolding_all rfl)).trans ?_
  show am_Wp _ 0 454 _ _ _ _ = _
  refine (eq_step (e := (.iadd, 1, 0, 0, 0)) (q := (455, [.ref 0, .ref 16, .ref 205, .int x3], [.int (x3 + 5), .ref 0, .int (M 0 (x3 + 4).toNatClampNeg), .int (M 0 (x3 + 3).toNatClampNeg), .int (M 0 (x3 + 2).toNatClampNeg), .int (M 0 (x3 + 1).toNatClampNeg), .ref 205, .int s0], hp nS M)) (am_cF_to (by with_unfolding_all rfl)) rfl (by with_unfolding_all rfl)).trans ?_
  show am_Wp _ 0 455 _ _ _ _ = _
  refine (eq_ald (e := (.iaload, 1, 0, 0, 0)) (by with_unfolding_all rfl) rfl (n := nS) (by with_unfolding_all rfl) h5).trans ?_
  show am_Wp _ 0 456 _ _ _ _ = _
  exact eq_call2 (e := (.invokevirtual 47, 3, 0, 180, 212)) (as := [.ref 205, .int (M 0 (x3 + 1).toNatClampNeg), .int (M 0 (x3 + 2).toNatClampNeg), .int (M 0 (x3 + 3).toNatClampNeg), .int (M 0 (x3 + 4).toNatClampNeg), .int (M 0 (x3 + 5).toNatClampNeg)]) (r := [.int s0]) (n := 6) (m := 6) (by with_unfolding_all rfl) rfl (by decide) (by with_unfolding_all rfl) (by decide) (by with_unfolding_all rfl) ⟨fun _ => am_rec_ok (c := 14) (by with_unfolding_all rfl) (by decide +kernel), fun z => by simp at z⟩
set_option maxRecDepth 20000 in
theorem b_0_459 {d nS : Nat} {x3 s0 s1 : Int32} {M : am_M} {Q : Option Value → am_H → Prop} : am_Wp d 0 459 [.ref 0, .ref 16, .ref 205, .int x3] [.int s1, .int s0] (hp nS M) Q = if s0 = s1 then am_Wp d 0 1410 [.ref 0, .ref 16, .ref 205, .int x3] [] (hp nS M) Q else am_Wp d 0 462 [.ref 0, .ref 16, .ref 205, .int x3] [] (hp nS M) Q := by
  exact eq_cmp_eq (by with_unfolding_all rfl)
set_option maxRecDepth 20000 in
theorem b_0_462 {d nS : Nat} {x3 : Int32} {M : am_M} {Q : Option Value → am_H → Prop} : am_Wp d 0 462 [.ref 0, .ref 16, .ref 205, .int x3] [] (hp nS M) Q = Q (some (.int 0)) (hp nS M) := by
  refine (eq_step (e := (.iconst 0, 1, 0, 0, 0)) (q := (463, [.ref 0, .ref 16, .ref 205, .int x3], [.int 0], hp nS M)) (am_cF_to (by with_unfolding_all rfl)) rfl (by with_unfolding_all rfl)).trans ?_
  show am_Wp _ 0 463 _ _ _ _ = _
  exact eq_retI2 (e := (.ireturn, 1, 0, 0, 0)) (t := .boolean) (by with_unfolding_all rfl) rfl (by with_unfolding_all rfl) rfl
set_option maxRecDepth 20000 in
theorem b_0_464 {d nS : Nat} {x3 : Int32} {M : am_M} {Q : Option Value → am_H → Prop} (h1 : vp_in (x3 + 1) nS) : am_Wp (d + 1) 0 464 [.ref 0, .ref 16, .ref 205, .int x3] [] (hp nS M) Q = am_Wp d 134 0 [.ref 16, .int (M 0 (x3 + 1).toNatClampNeg)] [] (hp nS M) (fun v h1 => am_Wp (d + 1) 0 473 [.ref 0, .ref 16, .ref 205, .int x3] (am_ans v []) h1 Q) := by
  refine (eq_step (e := (.aload_n 1, 1, 0, 0, 0)) (q := (465, [.ref 0, .ref 16, .ref 205, .int x3], [.ref 16], hp nS M)) (am_cF_to (by with_unfolding_all rfl)) rfl (by with_unfolding_all rfl)).trans ?_
  show am_Wp _ 0 465 _ _ _ _ = _
  refine (eq_step (e := (.aload_n 0, 1, 0, 0, 0)) (q := (466, [.ref 0, .ref 16, .ref 205, .int x3], [.ref 0, .ref 16], hp nS M)) (am_cF_to (by with_unfolding_all rfl)) rfl (by with_unfolding_all rfl)).trans ?_
  show am_Wp _ 0 466 _ _ _ _ = _
  refine (eq_step (e := (.iload_n 3, 1, 0, 0, 0)) (q := (467, [.ref 0, .ref 16, .ref 205, .int x3], [.int x3, .ref 0, .ref 16], hp nS M)) (am_cF_to (by with_unfolding_all rfl)) rfl (by with_unfolding_all rfl)).trans ?_
  show am_Wp _ 0 467 _ _ _ _ = _
  refine (eq_step (e := (.iconst 1, 1, 0, 0, 0)) (q := (468, [.ref 0, .ref 16, .ref 205, .int x3], [.int 1, .int x3, .ref 0, .ref 16], hp nS M)) (am_cF_to (by with_unfolding_all rfl)) rfl (by with_unfolding_all rfl)).trans ?_
  show am_Wp _ 0 468 _ _ _ _ = _
  refine (eq_step (e := (.iadd, 1, 0, 0, 0)) (q := (469, [.ref 0, .ref 16, .ref 205, .int x3], [.int (x3 + 1), .ref 0, .ref 16], hp nS M)) (am_cF_to (by with_unfolding_all rfl)) rfl (by with_unfolding_all rfl)).trans ?_
  show am_Wp _ 0 469 _ _ _ _ = _
  refine (eq_ald (e := (.iaload, 1, 0, 0, 0)) (by with_unfolding_all rfl) rfl (n := nS) (by with_unfolding_all rfl) h1).trans ?_
  show am_Wp _ 0 470 _ _ _ _ = _
  exact eq_call2 (e := (.invokevirtual 48, 3, 0, 134, 213)) (as := [.ref 16, .int (M 0 (x3 + 1).toNatClampNeg)]) (r := []) (n := 2) (m := 2) (by with_unfolding_all rfl) rfl (by decide) (by with_unfolding_all rfl) (by decide) (by with_unfolding_all rfl) ⟨fun _ => am_rec_ok (c := 13) (by with_unfolding_all rfl) (by decide +kernel), fun z => by simp at z⟩
set_option maxRecDepth 20000 in
theorem b_0_473 {d nS : Nat} {x3 s0 : Int32} {M : am_M} {Q : Option Value → am_H → Prop} (h1 : vp_in (x3 + 1) nS) : am_Wp (d + 1) 0 473 [.ref 0, .ref 16, .ref 205, .int x3] [.int s0] (hp nS M) Q = am_Wp d 182 0 [.ref 205, .int (M 0 (x3 + 1).toNatClampNeg)] [] (hp nS M) (fun v h1 => am_Wp (d + 1) 0 482 [.ref 0, .ref 16, .ref 205, .int x3] (am_ans v [.int s0]) h1 Q) := by
  refine (eq_step (e := (.aload_n 2, 1, 0, 0, 0)) (q := (474, [.ref 0, .ref 16, .ref 205, .int x3], [.ref 205, .int s0], hp nS M)) (am_cF_to (by with_unfolding_all rfl)) rfl (by with_unfolding_all rfl)).trans ?_
  show am_Wp _ 0 474 _ _ _ _ = _
  refine (eq_step (e := (.aload_n 0, 1, 0, 0, 0)) (q := (475, [.ref 0, .ref 16, .ref 205, .int x3], [.ref 0, .ref 205, .int s0], hp nS M)) (am_cF_to (by with_unfolding_all rfl)) rfl (by with_unfolding_all rfl)).trans ?_
  show am_Wp _ 0 475 _ _ _ _ = _
  refine (eq_step (e := (.iload_n 3, 1, 0, 0, 0)) (q := (476, [.ref 0, .ref 16, .ref 205, .int x3], [.int x3, .ref 0, .ref 205, .int s0], hp nS M)) (am_cF_to (by with_unfolding_all rfl)) rfl (by with_unfolding_all rfl)).trans ?_
  show am_Wp _ 0 476 _ _ _ _ = _
  refine (eq_step (e := (.iconst 1, 1, 0, 0, 0)) (q := (477, [.ref 0, .ref 16, .ref 205, .int x3], [.int 1, .int x3, .ref 0, .ref 205, .int s0], hp nS M)) (am_cF_to (by with_unfolding_all rfl)) rfl (by with_unfolding_all rfl)).trans ?_
  show am_Wp _ 0 477 _ _ _ _ = _
  refine (eq_step (e := (.iadd, 1, 0, 0, 0)) (q := (478, [.ref 0, .ref 16, .ref 205, .int x3], [.int (x3 + 1), .ref 0, .ref 205, .int s0], hp nS M)) (am_cF_to (by with_unfolding_all rfl)) rfl (by with_unfolding_all rfl)).trans ?_
  show am_Wp _ 0 478 _ _ _ _ = _
  refine (eq_ald (e := (.iaload, 1, 0, 0, 0)) (by with_unfolding_all rfl) rfl (n := nS) (by with_unfolding_all rfl) h1).trans ?_
  show am_Wp _ 0 479 _ _ _ _ = _
  exact eq_call2 (e := (.invokevirtual 52, 3, 0, 182, 214)) (as := [.ref 205, .int (M 0 (x3 + 1).toNatClampNeg)]) (r := [.int s0]) (n := 2) (m := 2) (by with_unfolding_all rfl) rfl (by decide) (by with_unfolding_all rfl) (by decide) (by with_unfolding_all rfl) ⟨fun _ => am_rec_ok (c := 14) (by with_unfolding_all rfl) (by decide +kernel), fun z => by simp at z⟩
set_option maxRecDepth 20000 in
theorem b_0_482 {d nS : Nat} {x3 s0 s1 : Int32} {M : am_M} {Q : Option Value → am_H → Prop} : am_Wp d 0 482 [.ref 0, .ref 16, .ref 205, .int x3] [.int s1, .int s0] (hp nS M) Q = if s0 = s1 then am_Wp d 0 1410 [.ref 0, .ref 16, .ref 205, .int x3] [] (hp nS M) Q else am_Wp d 0 485 [.ref 0, .ref 16, .ref 205, .int x3] [] (hp nS M) Q := by
  exact eq_cmp_eq (by with_unfolding_all rfl)
set_option maxRecDepth 20000 in
theorem b_0_485 {d nS : Nat} {x3 : Int32} {M : am_M} {Q : Option Value → am_H → Prop} : am_Wp d 0 485 [.ref 0, .ref 16, .ref 205, .int x3] [] (hp nS M) Q = Q (some (.int 0)) (hp nS M) := by
  refine (eq_step (e := (.iconst 0, 1, 0, 0, 0)) (q := (486, [.ref 0, .ref 16, .ref 205, .int x3], [.int 0], hp nS M)) (am_cF_to (by with_unfolding_all rfl)) rfl (by with_unfolding_all rfl)).trans ?_
  show am_Wp _ 0 486 _ _ _ _ = _
  exact eq_retI2 (e := (.ireturn, 1, 0, 0, 0)) (t := .boolean) (by with_unfolding_all rfl) rfl (by with_unfolding_all rfl) rfl
set_option maxRecDepth 20000 in
theorem b_0_487 {d nS : Nat} {x3 : Int32} {M : am_M} {Q : Option Value → am_H → Prop} (h1 : vp_in (x3 + 1) nS) : am_Wp (d + 1) 0 487 [.ref 0, .ref 16, .ref 205, .int x3] [] (hp nS M) Q = am_Wp d 135 0 [.ref 16, .int (M 0 (x3 + 1).toNatClampNeg), .retAddr 0] [] (hp nS M) (fun v h1 => am_Wp (d + 1) 0 496 [.ref 0, .ref 16, .ref 205, .int x3] (am_ans v []) h1 Q) := by
  refine (eq_step (e := (.aload_n 1, 1, 0, 0, 0)) (q := (488, [.ref 0, .ref 16, .ref 205, .int x3], [.ref 16], hp nS M)) (am_cF_to (by with_unfolding_all rfl)) rfl (by with_unfolding_all rfl)).trans ?_
  show am_Wp _ 0 488 _ _ _ _ = _
  refine (eq_step (e := (.aload_n 0, 1, 0, 0, 0)) (q := (489, [.ref 0, .ref 16, .ref 205, .int x3], [.ref 0, .ref 16], hp nS M)) (am_cF_to (by with_unfolding_all rfl)) rfl (by with_unfolding_all rfl)).trans ?_
  show am_Wp _ 0 489 _ _ _ _ = _
  refine (eq_step (e := (.iload_n 3, 1, 0, 0, 0)) (q := (490, [.ref 0, .ref 16, .ref 205, .int x3], [.int x3, .ref 0, .ref 16], hp nS M)) (am_cF_to (by with_unfolding_all rfl)) rfl (by with_unfolding_all rfl)).trans ?_
  show am_Wp _ 0 490 _ _ _ _ = _
  refine (eq_step (e := (.iconst 1, 1, 0, 0, 0)) (q := (491, [.ref 0, .ref 16, .ref 205, .int x3], [.int 1, .int x3, .ref 0, .ref 16], hp nS M)) (am_cF_to (by with_unfolding_all rfl)) rfl (by with_unfolding_all rfl)).trans ?_
  show am_Wp _ 0 491 _ _ _ _ = _
  refine (eq_step (e := (.iadd, 1, 0, 0, 0)) (q := (492, [.ref 0, .ref 16, .ref 205, .int x3], [.int (x3 + 1), .ref 0, .ref 16], hp nS M)) (am_cF_to (by with_unfolding_all rfl)) rfl (by with_unfolding_all rfl)).trans ?_
  show am_Wp _ 0 492 _ _ _ _ = _
  refine (eq_ald (e := (.iaload, 1, 0, 0, 0)) (by with_unfolding_all rfl) rfl (n := nS) (by with_unfolding_all rfl) h1).trans ?_
  show am_Wp _ 0 493 _ _ _ _ = _
  exact eq_call2 (e := (.invokevirtual 53, 3, 0, 135, 215)) (as := [.ref 16, .int (M 0 (x3 + 1).toNatClampNeg)]) (r := []) (n := 2) (m := 3) (by with_unfolding_all rfl) rfl (by decide) (by with_unfolding_all rfl) (by decide) (by with_unfolding_all rfl) ⟨fun _ => am_rec_ok (c := 13) (by with_unfolding_all rfl) (by decide +kernel), fun z => by simp at z⟩
set_option maxRecDepth 20000 in
theorem b_0_496 {d nS : Nat} {x3 s0 : Int32} {M : am_M} {Q : Option Value → am_H → Prop} (h1 : vp_in (x3 + 1) nS) : am_Wp (d + 1) 0 496 [.ref 0, .ref 16, .ref 205, .int x3] [.int s0] (hp nS M) Q = am_Wp d 183 0 [.ref 205, .int (M 0 (x3 + 1).toNatClampNeg), .retAddr 0] [] (hp nS M) (fun v h1 => am_Wp (d + 1) 0 505 [.ref 0, .ref 16, .ref 205, .int x3] (am_ans v [.int s0]) h1 Q) := by
  refine (eq_step (e := (.aload_n 2, 1, 0, 0, 0)) (q := (497, [.ref 0, .ref 16, .ref 205, .int x3], [.ref 205, .int s0], hp nS M)) (am_cF_to (by with_unfolding_all rfl)) rfl (by with_unfolding_all rfl)).trans ?_
  show am_Wp _ 0 497 _ _ _ _ = _
  refine (eq_step (e := (.aload_n 0, 1, 0, 0, 0)) (q := (498, [.ref 0, .ref 16, .ref 205, .int x3], [.ref 0, .ref 205, .int s0], hp nS M)) (am_cF_to (by with_unfolding_all rfl)) rfl (by with_unfolding_all rfl)).trans ?_
  show am_Wp _ 0 498 _ _ _ _ = _
  refine (eq_step (e := (.iload_n 3, 1, 0, 0, 0)) (q := (499, [.ref 0, .ref 16, .ref 205, .int x3], [.int x3, .ref 0, .ref 205, .int s0], hp nS M)) (am_cF_to (by with_unfolding_all rfl)) rfl (by with_unfolding_all rfl)).trans ?_
  show am_Wp _ 0 499 _ _ _ _ = _
  refine (eq_step (e := (.iconst 1, 1, 0, 0, 0)) (q := (500, [.ref 0, .ref 16, .ref 205, .int x3], [.int 1, .int x3, .ref 0, .ref 205, .int s0], hp nS M)) (am_cF_to (by with_unfolding_all rfl)) rfl (by with_unfolding_all rfl)).trans ?_
  show am_Wp _ 0 500 _ _ _ _ = _
  refine (eq_step (e := (.iadd, 1, 0, 0, 0)) (q := (501, [.ref 0, .ref 16, .ref 205, .int x3], [.int (x3 + 1), .ref 0, .ref 205, .int s0], hp nS M)) (am_cF_to (by with_unfolding_all rfl)) rfl (by with_unfolding_all rfl)).trans ?_
  show am_Wp _ 0 501 _ _ _ _ = _
  refine (eq_ald (e := (.iaload, 1, 0, 0, 0)) (by with_unfolding_all rfl) rfl (n := nS) (by with_unfolding_all rfl) h1).trans ?_
  show am_Wp _ 0 502 _ _ _ _ = _
  exact eq_call2 (e := (.invokevirtual 56, 3, 0, 183, 216)) (as := [.ref 205, .int (M 0 (x3 + 1).toNatClampNeg)]) (r := [.int s0]) (n := 2) (m := 3) (by with_unfolding_all rfl) rfl (by decide) (by with_unfolding_all rfl) (by decide) (by with_unfolding_all rfl) ⟨fun _ => am_rec_ok (c := 14) (by with_unfolding_all rfl) (by decide +kernel), fun z => by simp at z⟩
set_option maxRecDepth 20000 in
theorem b_0_505 {d nS : Nat} {x3 s0 s1 : Int32} {M : am_M} {Q : Option Value → am_H → Prop} : am_Wp d 0 505 [.ref 0, .ref 16, .ref 205, .int x3] [.int s1, .int s0] (hp nS M) Q = if s0 = s1 then am_Wp d 0 1410 [.ref 0, .ref 16, .ref 205, .int x3] [] (hp nS M) Q else am_Wp d 0 508 [.ref 0, .ref 16, .ref 205, .int x3] [] (hp nS M) Q := by
  exact eq_cmp_eq (by with_unfolding_all rfl)
set_option maxRecDepth 20000 in
theorem b_0_508 {d nS : Nat} {x3 : Int32} {M : am_M} {Q : Option Value → am_H → Prop} : am_Wp d 0 508 [.ref 0, .ref 16, .ref 205, .int x3] [] (hp nS M) Q = Q (some (.int 0)) (hp nS M) := by
  refine (eq_step (e := (.iconst 0, 1, 0, 0, 0)) (q := (509, [.ref 0, .ref 16, .ref 205, .int x3], [.int 0], hp nS M)) (am_cF_to (by with_unfolding_all rfl)) rfl (by with_unfolding_all rfl)).trans ?_
  show am_Wp _ 0 509 _ _ _ _ = _
  exact eq_retI2 (e := (.ireturn, 1, 0, 0, 0)) (t := .boolean) (by with_unfolding_all rfl) rfl (by with_unfolding_all rfl) rfl
set_option maxRecDepth 20000 in
theorem b_0_510 {d nS : Nat} {x3 : Int32} {M : am_M} {Q : Option Value → am_H → Prop} (h1 : vp_in (x3 + 1) nS) : am_Wp (d + 1) 0 510 [.ref 0, .ref 16, .ref 205, .int x3] [] (hp nS M) Q = am_Wp d 136 0 [.ref 16, .int (M 0 (x3 + 1).toNatClampNeg)] [] (hp nS M) (fun v h1 => am_Wp (d + 1) 0 519 [.ref 0, .ref 16, .ref 205, .int x3] (am_ans v []) h1 Q) := by
  refine (eq_step (e := (.aload_n 1, 1, 0, 0, 0)) (q := (511, [.ref 0, .ref 16, .ref 205, .int x3], [.ref 16], hp nS M)) (am_cF_to (by with_unfolding_all rfl)) rfl (by with_unfolding_all rfl)).trans ?_
  show am_Wp _ 0 511 _ _ _ _ = _
  refine (eq_step (e := (.aload_n 0, 1, 0, 0, 0)) (q := (512, [.ref 0, .ref 16, .ref 205, .int x3], [.ref 0, .ref 16], hp nS M)) (am_cF_to (by with_unfolding_all rfl)) rfl (by with_unfolding_all rfl)).trans ?_
  show am_Wp _ 0 512 _ _ _ _ = _
  refine (eq_step (e := (.iload_n 3, 1, 0, 0, 0)) (q := (513, [.ref 0, .ref 16, .ref 205, .int x3], [.int x3, .ref 0, .ref 16], hp nS M)) (am_cF_to (by with_unfolding_all rfl)) rfl (by with_unfolding_all rfl)).trans ?_
  show am_Wp _ 0 513 _ _ _ _ = _
  refine (eq_step (e := (.iconst 1, 1, 0, 0, 0)) (q := (514, [.ref 0, .ref 16, .ref 205, .int x3], [.int 1, .int x3, .ref 0, .ref 16], hp nS M)) (am_cF_to (by with_unfolding_all rfl)) rfl (by with_unfolding_all rfl)).trans ?_
  show am_Wp _ 0 514 _ _ _ _ = _
  refine (eq_step (e := (.iadd, 1, 0, 0, 0)) (q := (515, [.ref 0, .ref 16, .ref 205, .int x3], [.int (x3 + 1), .ref 0, .ref 16], hp nS M)) (am_cF_to (by with_unfolding_all rfl)) rfl (by with_unfolding_all rfl)).trans ?_
  show am_Wp _ 0 515 _ _ _ _ = _
  refine (eq_ald (e := (.iaload, 1, 0, 0, 0)) (by with_unfolding_all rfl) rfl (n := nS) (by with_unfolding_all rfl) h1).trans ?_
  show am_Wp _ 0 516 _ _ _ _ = _
  exact eq_call2 (e := (.invokevirtual 57, 3, 0, 136, 217)) (as := [.ref 16, .int (M 0 (x3 + 1).toNatClampNeg)]) (r := []) (n := 2) (m := 2) (by with_unfolding_all rfl) rfl (by decide) (by with_unfolding_all rfl) (by decide) (by with_unfolding_all rfl) ⟨fun _ => am_rec_ok (c := 13) (by with_unfolding_all rfl) (by decide +kernel), fun z => by simp at z⟩
set_option maxRecDepth 20000 in
theorem b_0_519 {d nS : Nat} {x3 s0 : Int32} {M : am_M} {Q : Option Value → am_H → Prop} (h1 : vp_in (x3 + 1) nS) : am_Wp (d + 1) 0 519 [.ref 0, .ref 16, .ref 205, .int x3] [.int s0] (hp nS M) Q = am_Wp d 217 0 [.ref 205, .int (M 0 (x3 + 1).toNatClampNeg)] [] (hp nS M) (fun v h1 => am_Wp (d + 1) 0 528 [.ref 0, .ref 16, .ref 205, .int x3] (am_ans v [.int s0]) h1 Q) := by
  refine (eq_step (e := (.aload_n 2, 1, 0, 0, 0)) (q := (520, [.ref 0, .ref 16, .ref 205, .int x3], [.ref 205, .int s0], hp nS M)) (am_cF_to (by with_unfolding_all rfl)) rfl (by with_unfolding_all rfl)).trans ?_
  show am_Wp _ 0 520 _ _ _ _ = _
  refine (eq_step (e := (.aload_n 0, 1, 0, 0, 0)) (q := (521, [.ref 0, .ref 16, .ref 205, .int x3], [.ref 0, .ref 205, .int s0], hp nS M)) (am_cF_to (by with_unfolding_all rfl)) rfl (by with_unfolding_all rfl)).trans ?_
  show am_Wp _ 0 521 _ _ _ _ = _
  refine (eq_step (e := (.iload_n 3, 1, 0, 0, 0)) (q := (522, [.ref 0, .ref 16, .ref 205, .int x3], [.int x3, .ref 0, .ref 205, .int s0], hp nS M)) (am_cF_to (by with_unfolding_all rfl)) rfl (by with_unfolding_all rfl)).trans ?_
  show am_Wp _ 0 522 _ _ _ _ = _
  refine (eq_step (e := (.iconst 1, 1, 0, 0, 0)) (q := (523, [.ref 0, .ref 16, .ref 205, .int x3], [.int 1, .int x3, .ref 0, .ref 205, .int s0], hp nS M)) (am_cF_to (by with_unfolding_all rfl)) rfl (by with_unfolding_all rfl)).trans ?_
  show am_Wp _ 0 523 _ _ _ _ = _
  refine (eq_step (e := (.iadd, 1, 0, 0, 0)) (q := (524, [.ref 0, .ref 16, .ref 205, .int x3], [.int (x3 + 1), .ref 0, .ref 205, .int s0], hp nS M)) (am_cF_to (by with_unfolding_all rfl)) rfl (by with_unfolding_all rfl)).trans ?_
  show am_Wp _ 0 524 _ _ _ _ = _
  refine (eq_ald (e := (.iaload, 1, 0, 0, 0)) (by with_unfolding_all rfl) rfl (n := nS) (by with_unfolding_all rfl) h1).trans ?_
  show am_Wp _ 0 525 _ _ _ _ = _
  exact eq_call2 (e := (.invokevirtual 60, 3, 0, 217, 218)) (as := [.ref 205, .int (M 0 (x3 + 1).toNatClampNeg)]) (r := [.int s0]) (n := 2) (m := 2) (by with_unfolding_all rfl) rfl (by decide) (by with_unfolding_all rfl) (by decide) (by with_unfolding_all rfl) ⟨fun _ => am_rec_ok (c := 14) (by with_unfolding_all rfl) (by decide +kernel), fun z => by simp at z⟩
set_option maxRecDepth 20000 in
theorem b_0_528 {d nS : Nat} {x3 s0 s1 : Int32} {M : am_M} {Q : Option Value → am_H → Prop} : am_Wp d 0 528 [.ref 0, .ref 16, .ref 205, .int x3] [.int s1, .int s0] (hp nS M) Q = if s0 = s1 then am_Wp d 0 1410 [.ref 0, .ref 16, .ref 205, .int x3] [] (hp nS M) Q else am_Wp d 0 531 [.ref 0, .ref 16, .ref 205, .int x3] [] (hp nS M) Q := by
  exact eq_cmp_eq (by with_unfolding_all rfl)
set_option maxRecDepth 20000 in
theorem b_0_531 {d nS : Nat} {x3 : Int32} {M : am_M} {Q : Option Value → am_H → Prop} : am_Wp d 0 531 [.ref 0, .ref 16, .ref 205, .int x3] [] (hp nS M) Q = Q (some (.int 0)) (hp nS M) := by
  refine (eq_step (e := (.iconst 0, 1, 0, 0, 0)) (q := (532, [.ref 0, .ref 16, .ref 205, .int x3], [.int 0], hp nS M)) (am_cF_to (by with_unfolding_all rfl)) rfl (by with_unfolding_all rfl)).trans ?_
  show am_Wp _ 0 532 _ _ _ _ = _
  exact eq_retI2 (e := (.ireturn, 1, 0, 0, 0)) (t := .boolean) (by with_unfolding_all rfl) rfl (by with_unfolding_all rfl) rfl
set_option maxRecDepth 20000 in
theorem b_0_533 {d nS : Nat} {x3 : Int32} {M : am_M} {Q : Option Value → am_H → Prop} (h1 : vp_in (x3 + 1) nS) (h2 : vp_in (x3 + 2) nS) : am_Wp (d + 1) 0 533 [.ref 0, .ref 16, .ref 205, .int x3] [] (hp nS M) Q = am_Wp d 137 0 [.ref 16, .int (M 0 (x3 + 1).toNatClampNeg), .int (M 0 (x3 + 2).toNatClampNeg), .retAddr 0] [] (hp nS M) (fun v h1 => am_Wp (d + 1) 0 547 [.ref 0, .ref 16, .ref 205, .int x3] (am_ans v []) h1 Q) := by
  refine (eq_step (e := (.aload_n 1, 1, 0, 0, 0)) (q := (534, [.ref 0, .ref 16, .ref 205, .int x3], [.ref 16], hp nS M)) (am_cF_to (by with_unfolding_all rfl)) rfl (by with_unfolding_all rfl)).trans ?_
  show am_Wp _ 0 534 _ _ _ _ = _
  refine (eq_step (e := (.aload_n 0, 1, 0, 0, 0)) (q := (535, [.ref 0, .ref 16, .ref 205, .int x3], [.ref 0, .ref 16], hp nS M)) (am_cF_to (by with_unfolding_all rfl)) rfl (by with_unfolding_all rfl)).trans ?_
  show am_Wp _ 0 535 _ _ _ _ = _
  refine (eq_step (e := (.iload_n 3, 1, 0, 0, 0)) (q := (536, [.ref 0, .ref 16, .ref 205, .int x3], [.int x3, .ref 0, .ref 16], hp nS M)) (am_cF_to (by with_unfolding_all rfl)) rfl (by with_unfolding_all rfl)).trans ?_
  show am_Wp _ 0 536 _ _ _ _ = _
  refine (eq_step (e := (.iconst 1, 1, 0, 0, 0)) (q := (537, [.ref 0, .ref 16, .ref 205, .int x3], [.int 1, .int x3, .ref 0, .ref 16], hp nS M)) (am_cF_to (by with_unfolding_all rfl)) rfl (by with_unfolding_all rfl)).trans ?_
  show am_Wp _ 0 537 _ _ _ _ = _
  refine (eq_step (e := (.iadd, 1, 0, 0, 0)) (q := (538, [.ref 0, .ref 16, .ref 205, .int x3], [.int (x3 + 1), .ref 0, .ref 16], hp nS M)) (am_cF_to (by with_unfolding_all rfl)) rfl (by with_unfolding_all rfl)).trans ?_
  show am_Wp _ 0 538 _ _ _ _ = _
  refine (eq_ald (e := (.iaload, 1, 0, 0, 0)) (by with_unfolding_all rfl) rfl (n := nS) (by with_unfolding_all rfl) h1).trans ?_
  show am_Wp _ 0 539 _ _ _ _ = _
  refine (eq_step (e := (.aload_n 0, 1, 0, 0, 0)) (q := (540, [.ref 0, .ref 16, .ref 205, .int x3], [.ref 0, .int (M 0 (x3 + 1).toNatClampNeg), .ref 16], hp nS M)) (am_cF_to (by with_unfolding_all rfl)) rfl (by with_unfolding_all rfl)).trans ?_
  show am_Wp _ 0 540 _ _ _ _ = _
  refine (eq_step (e := (.iload_n 3, 1, 0, 0, 0)) (q := (541, [.ref 0, .ref 16, .ref 205, .int x3], [.int x3, .ref 0, .int (M 0 (x3 + 1).toNatClampNeg), .ref 16], hp nS M)) (am_cF_to (by with_unfolding_all rfl)) rfl (by with_unfolding_all rfl)).trans ?_
  show am_Wp _ 0 541 _ _ _ _ = _
  refine (eq_step (e := (.iconst 2, 1, 0, 0, 0)) (q := (542, [.ref 0, .ref 16, .ref 205, .int x3], [.int 2, .int x3, .ref 0, .int (M 0 (x3 + 1).toNatClampNeg), .ref 16], hp nS M)) (am_cF_to (by with_unfolding_all rfl)) rfl (by with_unfolding_all rfl)).trans ?_
  show am_Wp _ 0 542 _ _ _ _ = _
  refine (eq_step (e := (.iadd, 1, 0, 0, 0)) (q := (543, [.ref 0, .ref 16, .ref 205, .int x3], [.int (x3 + 2), .ref 0, .int (M 0 (x3 + 1).toNatClampNeg), .ref 16], hp nS M)) (am_cF_to (by with_unfolding_all rfl)) rfl (by with_unfolding_all rfl)).trans ?_
  show am_Wp _ 0 543 _ _ _ _ = _
  refine (eq_ald (e := (.iaload, 1, 0, 0, 0)) (by with_unfolding_all rfl) rfl (n := nS) (by with_unfolding_all rfl) h2).trans ?_
  show am_Wp _ 0 544 _ _ _ _ = _
  exact eq_call2 (e := (.invokevirtual 61, 3, 0, 137, 219)) (as := [.ref 16, .int (M 0 (x3 + 1).toNatClampNeg), .int (M 0 (x3 + 2).toNatClampNeg)]) (r := []) (n := 3) (m := 4) (by with_unfolding_all rfl) rfl (by decide) (by with_unfolding_all rfl) (by decide) (by with_unfolding_all rfl) ⟨fun _ => am_rec_ok (c := 13) (by with_unfolding_all rfl) (by decide +kernel), fun z => by simp at z⟩
set_option maxRecDepth 20000 in
theorem b_0_547 {d nS : Nat} {x3 s0 : Int32} {M : am_M} {Q : Option Value → am_H → Prop} (h1 : vp_in (x3 + 1) nS) (h2 : vp_in (x3 + 2) nS) : am_Wp (d + 1) 0 547 [.ref 0, .ref 16, .ref 205, .int x3] [.int s0] (hp nS M) Q = am_Wp d 245 0 [.ref 205, .int (M 0 (x3 + 1).toNatClampNeg), .int (M 0 (x3 + 2).toNatClampNeg)] [] (hp nS M) (fun v h1 => am_Wp (d + 1) 0 561 [.ref 0, .ref 16, .ref 205, .int x3] (am_ans v [.int s0]) h1 Q) := by
  refine (eq_step (e := (.aload_n 2, 1, 0, 0, 0)) (q := (548, [.ref 0, .ref 16, .ref 205, .int x3], [.ref 205, .int s0], hp nS M)) (am_cF_to (by with_unfolding_all rfl)) rfl (by with_unfolding_all rfl)).trans ?_
  show am_Wp _ 0 548 _ _ _ _ = _
  refine (eq_step (e := (.aload_n 0, 1, 0, 0, 0)) (q := (549, [.ref 0, .ref 16, .ref 205, .int x3], [.ref 0, .ref 205, .int s0], hp nS M)) (am_cF_to (by with_unfolding_all rfl)) rfl (by with_unfolding_all rfl)).trans ?_
  show am_Wp _ 0 549 _ _ _ _ = _
  refine (eq_step (e := (.iload_n 3, 1, 0, 0, 0)) (q := (550, [.ref 0, .ref 16, .ref 205, .int x3], [.int x3, .ref 0, .ref 205, .int s0], hp nS M)) (am_cF_to (by with_unfolding_all rfl)) rfl (by with_unfolding_all rfl)).trans ?_
  show am_Wp _ 0 550 _ _ _ _ = _
  refine (eq_step (e := (.iconst 1, 1, 0, 0, 0)) (q := (551, [.ref 0, .ref 16, .ref 205, .int x3], [.int 1, .int x3, .ref 0, .ref 205, .int s0], hp nS M)) (am_cF_to (by with_unfolding_all rfl)) rfl (by with_unfolding_all rfl)).trans ?_
  show am_Wp _ 0 551 _ _ _ _ = _
  refine (eq_step (e := (.iadd, 1, 0, 0, 0)) (q := (552, [.ref 0, .ref 16, .ref 205, .int x3], [.int (x3 + 1), .ref 0, .ref 205, .int s0], hp nS M)) (am_cF_to (by with_unfolding_all rfl)) rfl (by with_unfolding_all rfl)).trans ?_
  show am_Wp _ 0 552 _ _ _ _ = _
  refine (eq_ald (e := (.iaload, 1, 0, 0, 0)) (by with_unfolding_all rfl) rfl (n := nS) (by with_unfolding_all rfl) h1).trans ?_
  show am_Wp _ 0 553 _ _ _ _ = _
  refine (eq_step (e := (.aload_n 0, 1, 0, 0, 0)) (q := (554, [.ref 0, .ref 16, .ref 205, .int x3], [.ref 0, .int (M 0 (x3 + 1).toNatClampNeg), .ref 205, .int s0], hp nS M)) (am_cF_to (by with_unfolding_all rfl)) rfl (by with_unfolding_all rfl)).trans ?_
  show am_Wp _ 0 554 _ _ _ _ = _
  refine (eq_step (e := (.iload_n 3, 1, 0, 0, 0)) (q := (555, [.ref 0, .ref 16, .ref 205, .int x3], [.int x3, .ref 0, .int (M 0 (x3 + 1).toNatClampNeg), .ref 205, .int s0], hp nS M)) (am_cF_to (by with_unfolding_all rfl)) rfl (by with_unfolding_all rfl)).trans ?_
  show am_Wp _ 0 555 _ _ _ _ = _
  refine (eq_step (e := (.iconst 2, 1, 0, 0, 0)) (q := (556, [.ref 0, .ref 16, .ref 205, .int x3], [.int 2, .int x3, .ref 0, .int (M 0 (x3 + 1).toNatClampNeg), .ref 205, .int s0], hp nS M)) (am_cF_to (by with_unfolding_all rfl)) rfl (by with_unfolding_all rfl)).trans ?_
  show am_Wp _ 0 556 _ _ _ _ = _
  refine (eq_step (e := (.iadd, 1, 0, 0, 0)) (q := (557, [.ref 0, .ref 16, .ref 205, .int x3], [.int (x3 + 2), .ref 0, .int (M 0 (x3 + 1).toNatClampNeg), .ref 205, .int s0], hp nS M)) (am_cF_to (by with_unfolding_all rfl)) rfl (by with_unfolding_all rfl)).trans ?_
  show am_Wp _ 0 557 _ _ _ _ = _
  refine (eq_ald (e := (.iaload, 1, 0, 0, 0)) (by with_unfolding_all rfl) rfl (n := nS) (by with_unfolding_all rfl) h2).trans ?_
  show am_Wp _ 0 558 _ _ _ _ = _
  exact eq_call2 (e := (.invokevirtual 65, 3, 0, 245, 220)) (as := [.ref 205, .int (M 0 (x3 + 1).toNatClampNeg), .int (M 0 (x3 + 2).toNatClampNeg)]) (r := [.int s0]) (n := 3) (m := 3) (by with_unfolding_all rfl) rfl (by decide) (by with_unfolding_all rfl) (by decide) (by with_unfolding_all rfl) ⟨fun _ => am_rec_ok (c := 14) (by with_unfolding_all rfl) (by decide +kernel), fun z => by simp at z⟩
set_option maxRecDepth 20000 in
theorem b_0_561 {d nS : Nat} {x3 s0 s1 : Int32} {M : am_M} {Q : Option Value → am_H → Prop} : am_Wp d 0 561 [.ref 0, .ref 16, .ref 205, .int x3] [.int s1, .int s0] (hp nS M) Q = if s0 = s1 then am_Wp d 0 1410 [.ref 0, .ref 16, .ref 205, .int x3] [] (hp nS M) Q else am_Wp d 0 564 [.ref 0, .ref 16, .ref 205, .int x3] [] (hp nS M) Q := by
  exact eq_cmp_eq (by with_unfolding_all rfl)
set_option maxRecDepth 20000 in
theorem b_0_564 {d nS : Nat} {x3 : Int32} {M : am_M} {Q : Option Value → am_H → Prop} : am_Wp d 0 564 [.ref 0, .ref 16, .ref 205, .int x3] [] (hp nS M) Q = Q (some (.int 0)) (hp nS M) := by
  refine (eq_step (e := (.iconst 0, 1, 0, 0, 0)) (q := (565, [.ref 0, .ref 16, .ref 205, .int x3], [.int 0], hp nS M)) (am_cF_to (by with_unfolding_all rfl)) rfl (by with_unfolding_all rfl)).trans ?_
  show am_Wp _ 0 565 _ _ _ _ = _
  exact eq_retI2 (e := (.ireturn, 1, 0, 0, 0)) (t := .boolean) (by with_unfolding_all rfl) rfl (by with_unfolding_all rfl) rfl
set_option maxRecDepth 20000 in
theorem b_0_566 {d nS : Nat} {x3 : Int32} {M : am_M} {Q : Option Value → am_H → Prop} (h1 : vp_in (x3 + 1) nS) (h2 : vp_in (x3 + 2) nS) : am_Wp (d + 1) 0 566 [.ref 0, .ref 16, .ref 205, .int x3] [] (hp nS M) Q = am_Wp d 138 0 [.ref 16, .int (M 0 (x3 + 1).toNatClampNeg), .int (M 0 (x3 + 2).toNatClampNeg), .retAddr 0] [] (hp nS M) (fun v h1 => am_Wp (d + 1) 0 580 [.ref 0, .ref 16, .ref 205, .int x3] (am_ans v []) h1 Q) := by
  refine (eq_step (e := (.aload_n 1, 1, 0, 0, 0)) (q := (567, [.ref 0, .ref 16, .ref 205, .int x3], [.ref 16], hp nS M)) (am_cF_to (by with_unfolding_all rfl)) rfl (by with_unfolding_all rfl)).trans ?_
  show am_Wp _ 0 567 _ _ _ _ = _
  refine (eq_step (e := (.aload_n 0, 1, 0, 0, 0)) (q := (568, [.ref 0, .ref 16, .ref 205, .int x3], [.ref 0, .ref 16], hp nS M)) (am_cF_to (by with_unfolding_all rfl)) rfl (by with_unfolding_all rfl)).trans ?_
  show am_Wp _ 0 568 _ _ _ _ = _
  refine (eq_step (e := (.iload_n 3, 1, 0, 0, 0)) (q := (569, [.ref 0, .ref 16, .ref 205, .int x3], [.int x3, .ref 0, .ref 16], hp nS M)) (am_cF_to (by with_unfolding_all rfl)) rfl (by with_unfolding_all rfl)).trans ?_
  show am_Wp _ 0 569 _ _ _ _ = _
  refine (eq_step (e := (.iconst 1, 1, 0, 0, 0)) (q := (570, [.ref 0, .ref 16, .ref 205, .int x3], [.int 1, .int x3, .ref 0, .ref 16], hp nS M)) (am_cF_to (by with_unfolding_all rfl)) rfl (by with_unfolding_all rfl)).trans ?_
  show am_Wp _ 0 570 _ _ _ _ = _
  refine (eq_step (e := (.iadd, 1, 0, 0, 0)) (q := (571, [.ref 0, .ref 16, .ref 205, .int x3], [.int (x3 + 1), .ref 0, .ref 16], hp nS M)) (am_cF_to (by with_unfolding_all rfl)) rfl (by with_unfolding_all rfl)).trans ?_
  show am_Wp _ 0 571 _ _ _ _ = _
  refine (eq_ald (e := (.iaload, 1, 0, 0, 0)) (by with_unfolding_all rfl) rfl (n := nS) (by with_unfolding_all rfl) h1).trans ?_
  show am_Wp _ 0 572 _ _ _ _ = _
  refine (eq_step (e := (.aload_n 0, 1, 0, 0, 0)) (q := (573, [.ref 0, .ref 16, .ref 205, .int x3], [.ref 0, .int (M 0 (x3 + 1).toNatClampNeg), .ref 16], hp nS M)) (am_cF_to (by with_unfolding_all rfl)) rfl (by with_unfolding_all rfl)).trans ?_
  show am_Wp _ 0 573 _ _ _ _ = _
  refine (eq_step (e := (.iload_n 3, 1, 0, 0, 0)) (q := (574, [.ref 0, .ref 16, .ref 205, .int x3], [.int x3, .ref 0, .int (M 0 (x3 + 1).toNatClampNeg), .ref 16], hp nS M)) (am_cF_to (by with_unfolding_all rfl)) rfl (by with_unfolding_all rfl)).trans ?_
  show am_Wp _ 0 574 _ _ _ _ = _
  refine (eq_step (e := (.iconst 2, 1, 0, 0, 0)) (q := (575, [.ref 0, .ref 16, .ref 205, .int x3], [.int 2, .int x3, .ref 0, .int (M 0 (x3 + 1).toNatClampNeg), .ref 16], hp nS M)) (am_cF_to (by with_unfolding_all rfl)) rfl (by with_unfolding_all rfl)).trans ?_
  show am_Wp _ 0 575 _ _ _ _ = _
  refine (eq_step (e := (.iadd, 1, 0, 0, 0)) (q := (576, [.ref 0, .ref 16, .ref 205, .int x3], [.int (x3 + 2), .ref 0, .int (M 0 (x3 + 1).toNatClampNeg), .ref 16], hp nS M)) (am_cF_to (by with_unfolding_all rfl)) rfl (by with_unfolding_all rfl)).trans ?_
  show am_Wp _ 0 576 _ _ _ _ = _
  refine (eq_ald (e := (.iaload, 1, 0, 0, 0)) (by with_unfolding_all rfl) rfl (n := nS) (by with_unfolding_all rfl) h2).trans ?_
  show am_Wp _ 0 577 _ _ _ _ = _
  exact eq_call2 (e := (.invokevirtual 66, 3, 0, 138, 221)) (as := [.ref 16, .int (M 0 (x3 + 1).toNatClampNeg), .int (M 0 (x3 + 2).toNatClampNeg)]) (r := []) (n := 3) (m := 4) (by with_unfolding_all rfl) rfl (by decide) (by with_unfolding_all rfl) (by decide) (by with_unfolding_all rfl) ⟨fun _ => am_rec_ok (c := 13) (by with_unfolding_all rfl) (by decide +kernel), fun z => by simp at z⟩
set_option maxRecDepth 20000 in
theorem b_0_580 {d nS : Nat} {x3 s0 : Int32} {M : am_M} {Q : Option Value → am_H → Prop} (h1 : vp_in (x3 + 1) nS) (h2 : vp_in (x3 + 2) nS) : am_Wp (d + 1) 0 580 [.ref 0, .ref 16, .ref 205, .int x3] [.int s0] (hp nS M) Q = am_Wp d 247 0 [.ref 205, .int (M 0 (x3 + 1).toNatClampNeg), .int (M 0 (x3 + 2).toNatClampNeg), .retAddr 0, .retAddr 0] [] (hp nS M) (fun v h1 => am_Wp (d + 1) 0 594 [.ref 0, .ref 16, .ref 205, .int x3] (am_ans v [.int s0]) h1 Q) := by
  refine (eq_step (e := (.aload_n 2, 1, 0, 0, 0)) (q := (581, [.ref 0, .ref 16, .ref 205, .int x3], [.ref 205, .int s0], hp nS M)) (am_cF_to (by with_unfolding_all rfl)) rfl (by with_unfolding_all rfl)).trans ?_
  show am_Wp _ 0 581 _ _ _ _ = _
  refine (eq_step (e := (.aload_n 0, 1, 0, 0, 0)) (q := (582, [.ref 0, .ref 16, .ref 205, .int x3], [.ref 0, .ref 205, .int s0], hp nS M)) (am_cF_to (by with_unfolding_all rfl)) rfl (by with_unfolding_all rfl)).trans ?_
  show am_Wp _ 0 582 _ _ _ _ = _
  refine (eq_step (e := (.iload_n 3, 1, 0, 0, 0)) (q := (583, [.ref 0, .ref 16, .ref 205, .int x3], [.int x3, .ref 0, .ref 205, .int s0], hp nS M)) (am_cF_to (by with_unfolding_all rfl)) rfl (by with_unfolding_all rfl)).trans ?_
  show am_Wp _ 0 583 _ _ _ _ = _
  refine (eq_step (e := (.iconst 1, 1, 0, 0, 0)) (q := (584, [.ref 0, .ref 16, .ref 205, .int x3], [.int 1, .int x3, .ref 0, .ref 205, .int s0], hp nS M)) (am_cF_to (by with_unfolding_all rfl)) rfl (by with_unfolding_all rfl)).trans ?_
  show am_Wp _ 0 584 _ _ _ _ = _
  refine (eq_step (e := (.iadd, 1, 0, 0, 0)) (q := (585, [.ref 0, .ref 16, .ref 205, .int x3], [.int (x3 + 1), .ref 0, .ref 205, .int s0], hp nS M)) (am_cF_to (by with_unfolding_all rfl)) rfl (by with_unfolding_all rfl)).trans ?_
  show am_Wp _ 0 585 _ _ _ _ = _
  refine (eq_ald (e := (.iaload, 1, 0, 0, 0)) (by with_unfolding_all rfl) rfl (n := nS) (by with_unfolding_all rfl) h1).trans ?_
  show am_Wp _ 0 586 _ _ _ _ = _
  refine (eq_step (e := (.aload_n 0, 1, 0, 0, 0)) (q := (587, [.ref 0, .ref 16, .ref 205, .int x3], [.ref 0, .int (M 0 (x3 + 1).toNatClampNeg), .ref 205, .int s0], hp nS M)) (am_cF_to (by with_unfolding_all rfl)) rfl (by with_unfolding_all rfl)).trans ?_
  show am_Wp _ 0 587 _ _ _ _ = _
  refine (eq_step (e := (.iload_n 3, 1, 0, 0, 0)) (q := (588, [.ref 0, .ref 16, .ref 205, .int x3], [.int x3, .ref 0, .int (M 0 (x3 + 1).toNatClampNeg), .ref 205, .int s0], hp nS M)) (am_cF_to (by with_unfolding_all rfl)) rfl (by with_unfolding_all rfl)).trans ?_
  show am_Wp _ 0 588 _ _ _ _ = _
  refine (eq_step (e := (.iconst 2, 1, 0, 0, 0)) (q := (589, [.ref 0, .ref 16, .ref 205, .int x3], [.int 2, .int x3, .ref 0, .int (M 0 (x3 + 1).toNatClampNeg), .ref 205, .int s0], hp nS M)) (am_cF_to (by with_unfolding_all rfl)) rfl (by with_unfolding_all rfl)).trans ?_
  show am_Wp _ 0 589 _ _ _ _ = _
  refine (eq_step (e := (.iadd, 1, 0, 0, 0)) (q := (590, [.ref 0, .ref 16, .ref 205, .int x3], [.int (x3 + 2), .ref 0, .int (M 0 (x3 + 1).toNatClampNeg), .ref 205, .int s0], hp nS M)) (am_cF_to (by with_unfolding_all rfl)) rfl (by with_unfolding_all rfl)).trans ?_
  show am_Wp _ 0 590 _ _ _ _ = _
  refine (eq_ald (e := (.iaload, 1, 0, 0, 0)) (by with_unfolding_all rfl) rfl (n := nS) (by with_unfolding_all rfl) h2).trans ?_
  show am_Wp _ 0 591 _ _ _ _ = _
  exact eq_call2 (e := (.invokevirtual 69, 3, 0, 247, 222)) (as := [.ref 205, .int (M 0 (x3 + 1).toNatClampNeg), .int (M 0 (x3 + 2).toNatClampNeg)]) (r := [.int s0]) (n := 3) (m := 5) (by with_unfolding_all rfl) rfl (by decide) (by with_unfolding_all rfl) (by decide) (by with_unfolding_all rfl) ⟨fun _ => am_rec_ok (c := 14) (by with_unfolding_all rfl) (by decide +kernel), fun z => by simp at z⟩
set_option maxRecDepth 20000 in
theorem b_0_594 {d nS : Nat} {x3 s0 s1 : Int32} {M : am_M} {Q : Option Value → am_H → Prop} : am_Wp d 0 594 [.ref 0, .ref 16, .ref 205, .int x3] [.int s1, .int s0] (hp nS M) Q = if s0 = s1 then am_Wp d 0 1410 [.ref 0, .ref 16, .ref 205, .int x3] [] (hp nS M) Q else am_Wp d 0 597 [.ref 0, .ref 16, .ref 205, .int x3] [] (hp nS M) Q := by
  exact eq_cmp_eq (by with_unfolding_all rfl)
set_option maxRecDepth 20000 in
theorem b_0_597 {d nS : Nat} {x3 : Int32} {M : am_M} {Q : Option Value → am_H → Prop} : am_Wp d 0 597 [.ref 0, .ref 16, .ref 205, .int x3] [] (hp nS M) Q = Q (some (.int 0)) (hp nS M) := by
  refine (eq_step (e := (.iconst 0, 1, 0, 0, 0)) (q := (598, [.ref 0, .ref 16, .ref 205, .int x3], [.int 0], hp nS M)) (am_cF_to (by with_unfolding_all rfl)) rfl (by with_unfolding_all rfl)).trans ?_
  show am_Wp _ 0 598 _ _ _ _ = _
  exact eq_retI2 (e := (.ireturn, 1, 0, 0, 0)) (t := .boolean) (by with_unfolding_all rfl) rfl (by with_unfolding_all rfl) rfl
set_option maxRecDepth 20000 in
theorem b_0_599 {d nS : Nat} {x3 : Int32} {M : am_M} {Q : Option Value → am_H → Prop} (h1 : vp_in (x3 + 1) nS) (h2 : vp_in (x3 + 2) nS) : am_Wp (d + 1) 0 599 [.ref 0, .ref 16, .ref 205, .int x3] [] (hp nS M) Q = am_Wp d 139 0 [.ref 16, .int (M 0 (x3 + 1).toNatClampNeg), .int (M 0 (x3 + 2).toNatClampNeg), .retAddr 0] [] (hp nS M) (fun v h1 => am_Wp (d + 1) 0 613 [.ref 0, .ref 16, .ref 205, .int x3] (am_ans v []) h1 Q) := by
  refine (eq_step (e := (.aload_n 1, 1, 0, 0, 0)) (q := (600, [.ref 0, .ref 16, .ref 205, .int x3], [.ref 16], hp nS M)) (am_cF_to (by with_unfolding_all rfl)) rfl (by with_unfolding_all rfl)).trans ?_
  show am_Wp _ 0 600 _ _ _ _ = _
  refine (eq_step (e := (.aload_n 0, 1, 0, 0, 0)) (q := (601, [.ref 0, .ref 16, .ref 205, .int x3], [.ref 0, .ref 16], hp nS M)) (am_cF_to (by with_unfolding_all rfl)) rfl (by with_unfolding_all rfl)).trans ?_
  show am_Wp _ 0 601 _ _ _ _ = _
  refine (eq_step (e := (.iload_n 3, 1, 0, 0, 0)) (q := (602, [.ref 0, .ref 16, .ref 205, .int x3], [.int x3, .ref 0, .ref 16], hp nS M)) (am_cF_to (by with_unfolding_all rfl)) rfl (by with_unfolding_all rfl)).trans ?_
  show am_Wp _ 0 602 _ _ _ _ = _
  refine (eq_step (e := (.iconst 1, 1, 0, 0, 0)) (q := (603, [.ref 0, .ref 16, .ref 205, .int x3], [.int 1, .int x3, .ref 0, .ref 16], hp nS M)) (am_cF_to (by with_unfolding_all rfl)) rfl (by with_unfolding_all rfl)).trans ?_
  show am_Wp _ 0 603 _ _ _ _ = _
  refine (eq_step (e := (.iadd, 1, 0, 0, 0)) (q := (604, [.ref 0, .ref 16, .ref 205, .int x3], [.int (x3 + 1), .ref 0, .ref 16], hp nS M)) (am_cF_to (by with_unfolding_all rfl)) rfl (by with_unfolding_all rfl)).trans ?_
  show am_Wp _ 0 604 _ _ _ _ = _
  refine (eq_ald (e := (.iaload, 1, 0, 0, 0)) (by with_unfolding_all rfl) rfl (n := nS) (by with_unfolding_all rfl) h1).trans ?_
  show am_Wp _ 0 605 _ _ _ _ = _
  refine (eq_step (e := (.aload_n 0, 1, 0, 0, 0)) (q := (606, [.ref 0, .ref 16, .ref 205, .int x3], [.ref 0, .int (M 0 (x3 + 1).toNatClampNeg), .ref 16], hp nS M)) (am_cF_to (by with_unfolding_all rfl)) rfl (by with_unfolding_all rfl)).trans ?_
  show am_Wp _ 0 606 _ _ _ _ = _
  refine (eq_step (e := (.iload_n 3, 1, 0, 0, 0)) (q := (607, [.ref 0, .ref 16, .ref 205, .int x3], [.int x3, .ref 0, .int (M 0 (x3 + 1).toNatClampNeg), .ref 16], hp nS M)) (am_cF_to (by with_unfolding_all rfl)) rfl (by with_unfolding_all rfl)).trans ?_
  show am_Wp _ 0 607 _ _ _ _ = _
  refine (eq_step (e := (.iconst 2, 1, 0, 0, 0)) (q := (608, [.ref 0, .ref 16, .ref 205, .int x3], [.int 2, .int x3, .ref 0, .int (M 0 (x3 + 1).toNatClampNeg), .ref 16], hp nS M)) (am_cF_to (by with_unfolding_all rfl)) rfl (by with_unfolding_all rfl)).trans ?_
  show am_Wp _ 0 608 _ _ _ _ = _
  refine (eq_step (e := (.iadd, 1, 0, 0, 0)) (q := (609, [.ref 0, .ref 16, .ref 205, .int x3], [.int (x3 + 2), .ref 0, .int (M 0 (x3 + 1).toNatClampNeg), .ref 16], hp nS M)) (am_cF_to (by with_unfolding_all rfl)) rfl (by with_unfolding_all rfl)).trans ?_
  show am_Wp _ 0 609 _ _ _ _ = _
  refine (eq_ald (e := (.iaload, 1, 0, 0, 0)) (by with_unfolding_all rfl) rfl (n := nS) (by with_unfolding_all rfl) h2).trans ?_
  show am_Wp _ 0 610 _ _ _ _ = _
  exact eq_call2 (e := (.invokevirtual 70, 3, 0, 139, 223)) (as := [.ref 16, .int (M 0 (x3 + 1).toNatClampNeg), .int (M 0 (x3 + 2).toNatClampNeg)]) (r := []) (n := 3) (m := 4) (by with_unfolding_all rfl) rfl (by decide) (by with_unfolding_all rfl) (by decide) (by with_unfolding_all rfl) ⟨fun _ => am_rec_ok (c := 13) (by with_unfolding_all rfl) (by decide +kernel), fun z => by simp at z⟩
set_option maxRecDepth 20000 in
theorem b_0_613 {d nS : Nat} {x3 s0 : Int32} {M : am_M} {Q : Option Value → am_H → Prop} (h1 : vp_in (x3 + 1) nS) (h2 : vp_in (x3 + 2) nS) : am_Wp (d + 1) 0 613 [.ref 0, .ref 16, .ref 205, .int x3] [.int s0] (hp nS M) Q = am_Wp d 248 0 [.ref 205, .int (M 0 (x3 + 1).toNatClampNeg), .int (M 0 (x3 + 2).toNatClampNeg)] [] (hp nS M) (fun v h1 => am_Wp (d + 1) 0 627 [.ref 0, .ref 16, .ref 205, .int x3] (am_ans v [.int s0]) h1 Q) := by
  refine (eq_step (e := (.aload_n 2, 1, 0, 0, 0)) (q := (614, [.ref 0, .ref 16, .ref 205, .int x3], [.ref 205, .int s0], hp nS M)) (am_cF_to (by with_unfolding_all rfl)) rfl (by with_unfolding_all rfl)).trans ?_
  show am_Wp _ 0 614 _ _ _ _ = _
  refine (eq_step (e := (.aload_n 0, 1, 0, 0, 0)) (q := (615, [.ref 0, .ref 16, .ref 205, .int x3], [.ref 0, .ref 205, .int s0], hp nS M)) (am_cF_to (by with_unfolding_all rfl)) rfl (by with_unfolding_all rfl)).trans ?_
  show am_Wp _ 0 615 _ _ _ _ = _
  refine (eq_step (e := (.iload_n 3, 1, 0, 0, 0)) (q := (616, [.ref 0, .ref 16, .ref 205, .int x3], [.int x3, .ref 0, .ref 205, .int s0], hp nS M)) (am_cF_to (by with_unfolding_all rfl)) rfl (by with_unfolding_all rfl)).trans ?_
  show am_Wp _ 0 616 _ _ _ _ = _
  refine (eq_step (e := (.iconst 1, 1, 0, 0, 0)) (q := (617, [.ref 0, .ref 16, .ref 205, .int x3], [.int 1, .int x3, .ref 0, .ref 205, .int s0], hp nS M)) (am_cF_to (by with_unfolding_all rfl)) rfl (by with_unfolding_all rfl)).trans ?_
  show am_Wp _ 0 617 _ _ _ _ = _
  refine (eq_step (e := (.iadd, 1, 0, 0, 0)) (q := (618, [.ref 0, .ref 16, .ref 205, .int x3], [.int (x3 + 1), .ref 0, .ref 205, .int s0], hp nS M)) (am_cF_to (by with_unfolding_all rfl)) rfl (by with_unfolding_all rfl)).trans ?_
  show am_Wp _ 0 618 _ _ _ _ = _
  refine (eq_ald (e := (.iaload, 1, 0, 0, 0)) (by with_unfolding_all rfl) rfl (n := nS) (by with_unfolding_all rfl) h1).trans ?_
  show am_Wp _ 0 619 _ _ _ _ = _
  refine (eq_step (e := (.aload_n 0, 1, 0, 0, 0)) (q := (620, [.ref 0, .ref 16, .ref 205, .int x3], [.ref 0, .int (M 0 (x3 + 1).toNatClampNeg), .ref 205, .int s0], hp nS M)) (am_cF_to (by with_unfolding_all rfl)) rfl (by with_unfolding_all rfl)).trans ?_
  show am_Wp _ 0 620 _ _ _ _ = _
  refine (eq_step (e := (.iload_n 3, 1, 0, 0, 0)) (q := (621, [.ref 0, .ref 16, .ref 205, .int x3], [.int x3, .ref 0, .int (M 0 (x3 + 1).toNatClampNeg), .ref 205, .int s0], hp nS M)) (am_cF_to (by with_unfolding_all rfl)) rfl (by with_unfolding_all rfl)).trans ?_
  show am_Wp _ 0 621 _ _ _ _ = _
  refine (eq_step (e := (.iconst 2, 1, 0, 0, 0)) (q := (622, [.ref 0, .ref 16, .ref 205, .int x3], [.int 2, .int x3, .ref 0, .int (M 0 (x3 + 1).toNatClampNeg), .ref 205, .int s0], hp nS M)) (am_cF_to (by with_unfolding_all rfl)) rfl (by with_unfolding_all rfl)).trans ?_
  show am_Wp _ 0 622 _ _ _ _ = _
  refine (eq_step (e := (.iadd, 1, 0, 0, 0)) (q := (623, [.ref 0, .ref 16, .ref 205, .int x3], [.int (x3 + 2), .ref 0, .int (M 0 (x3 + 1).toNatClampNeg), .ref 205, .int s0], hp nS M)) (am_cF_to (by with_unfolding_all rfl)) rfl (by with_unfolding_all rfl)).trans ?_
  show am_Wp _ 0 623 _ _ _ _ = _
  refine (eq_ald (e := (.iaload, 1, 0, 0, 0)) (by with_unfolding_all rfl) rfl (n := nS) (by with_unfolding_all rfl) h2).trans ?_
  show am_Wp _ 0 624 _ _ _ _ = _
  exact eq_call2 (e := (.invokevirtual 73, 3, 0, 248, 224)) (as := [.ref 205, .int (M 0 (x3 + 1).toNatClampNeg), .int (M 0 (x3 + 2).toNatClampNeg)]) (r := [.int s0]) (n := 3) (m := 3) (by with_unfolding_all rfl) rfl (by decide) (by with_unfolding_all rfl) (by decide) (by with_unfolding_all rfl) ⟨fun _ => am_rec_ok (c := 14) (by with_unfolding_all rfl) (by decide +kernel), fun z => by simp at z⟩
set_option maxRecDepth 20000 in
theorem b_0_627 {d nS : Nat} {x3 s0 s1 : Int32} {M : am_M} {Q : Option Value → am_H → Prop} : am_Wp d 0 627 [.ref 0, .ref 16, .ref 205, .int x3] [.int s1, .int s0] (hp nS M) Q = if s0 = s1 then am_Wp d 0 1410 [.ref 0, .ref 16, .ref 205, .int x3] [] (hp nS M) Q else am_Wp d 0 630 [.ref 0, .ref 16, .ref 205, .int x3] [] (hp nS M) Q := by
  exact eq_cmp_eq (by with_unfolding_all rfl)
set_option maxRecDepth 20000 in
theorem b_0_630 {d nS : Nat} {x3 : Int32} {M : am_M} {Q : Option Value → am_H → Prop} : am_Wp d 0 630 [.ref 0, .ref 16, .ref 205, .int x3] [] (hp nS M) Q = Q (some (.int 0)) (hp nS M) := by
  refine (eq_step (e := (.iconst 0, 1, 0, 0, 0)) (q := (631, [.ref 0, .ref 16, .ref 205, .int x3], [.int 0], hp nS M)) (am_cF_to (by with_unfolding_all rfl)) rfl (by with_unfolding_all rfl)).trans ?_
  show am_Wp _ 0 631 _ _ _ _ = _
  exact eq_retI2 (e := (.ireturn, 1, 0, 0, 0)) (t := .boolean) (by with_unfolding_all rfl) rfl (by with_unfolding_all rfl) rfl
set_option maxRecDepth 20000 in
theorem b_0_632 {d nS : Nat} {x3 : Int32} {M : am_M} {Q : Option Value → am_H → Prop} (h1 : vp_in (x3 + 1) nS) (h2 : vp_in (x3 + 2) nS) : am_Wp (d + 1) 0 632 [.ref 0, .ref 16, .ref 205, .int x3] [] (hp nS M) Q = am_Wp d 140 0 [.ref 16, .int (M 0 (x3 + 1).toNatClampNeg), .int (M 0 (x3 + 2).toNatClampNeg)] [] (hp nS M) (fun v h1 => am_Wp (d + 1) 0 646 [.ref 0, .ref 16, .ref 205, .int x3] (am_ans v []) h1 Q) := by
  refine (eq_step (e := (.aload_n 1, 1, 0, 0, 0)) (q := (633, [.ref 0, .ref 16, .ref 205, .int x3], [.ref 16], hp nS M)) (am_cF_to (by with_unfolding_all rfl)) rfl (by with_unfolding_all rfl)).trans ?_
  show am_Wp _ 0 633 _ _ _ _ = _
  refine (eq_step (e := (.aload_n 0, 1, 0, 0, 0)) (q := (634, [.ref 0, .ref 16, .ref 205, .int x3], [.ref 0, .ref 16], hp nS M)) (am_cF_to (by with_unfolding_all rfl)) rfl (by with_unfolding_all rfl)).trans ?_
  show am_Wp _ 0 634 _ _ _ _ = _
  refine (eq_step (e := (.iload_n 3, 1, 0, 0, 0)) (q := (635, [.ref 0, .ref 16, .ref 205, .int x3], [.int x3, .ref 0, .ref 16], hp nS M)) (am_cF_to (by with_unfolding_all rfl)) rfl (by with_unfolding_all rfl)).trans ?_
  show am_Wp _ 0 635 _ _ _ _ = _
  refine (eq_step (e := (.iconst 1, 1, 0, 0, 0)) (q := (636, [.ref 0, .ref 16, .ref 205, .int x3], [.int 1, .int x3, .ref 0, .ref 16], hp nS M)) (am_cF_to (by with_unfolding_all rfl)) rfl (by with_unfolding_all rfl)).trans ?_
  show am_Wp _ 0 636 _ _ _ _ = _
  refine (eq_step (e := (.iadd, 1, 0, 0, 0)) (q := (637, [.ref 0, .ref 16, .ref 205, .int x3], [.int (x3 + 1), .ref 0, .ref 16], hp nS M)) (am_cF_to (by with_unfolding_all rfl)) rfl (by with_unfolding_all rfl)).trans ?_
  show am_Wp _ 0 637 _ _ _ _ = _
  refine (eq_ald (e := (.iaload, 1, 0, 0, 0)) (by with_unfolding_all rfl) rfl (n := nS) (by with_unfolding_all rfl) h1).trans ?_
  show am_Wp _ 0 638 _ _ _ _ = _
  refine (eq_step (e := (.aload_n 0, 1, 0, 0, 0)) (q := (639, [.ref 0, .ref 16, .ref 205, .int x3], [.ref 0, .int (M 0 (x3 + 1).toNatClampNeg), .ref 16], hp nS M)) (am_cF_to (by with_unfolding_all rfl)) rfl (by with_unfolding_all rfl)).trans ?_
  show am_Wp _ 0 639 _ _ _ _ = _
  refine (eq_step (e := (.iload_n 3, 1, 0, 0, 0)) (q := (640, [.ref 0, .ref 16, .ref 205, .int x3], [.int x3, .ref 0, .int (M 0 (x3 + 1).toNatClampNeg), .ref 16], hp nS M)) (am_cF_to (by with_unfolding_all rfl)) rfl (by with_unfolding_all rfl)).trans ?_
  show am_Wp _ 0 640 _ _ _ _ = _
  refine (eq_step (e := (.iconst 2, 1, 0, 0, 0)) (q := (641, [.ref 0, .ref 16, .ref 205, .int x3], [.int 2, .int x3, .ref 0, .int (M 0 (x3 + 1).toNatClampNeg), .ref 16], hp nS M)) (am_cF_to (by with_unfolding_all rfl)) rfl (by with_unfolding_all rfl)).trans ?_
  show am_Wp _ 0 641 _ _ _ _ = _
  refine (eq_step (e := (.iadd, 1, 0, 0, 0)) (q := (642, [.ref 0, .ref 16, .ref 205, .int x3], [.int (x3 + 2), .ref 0, .int (M 0 (x3 + 1).toNatClampNeg), .ref 16], hp nS M)) (am_cF_to (by with_unfolding_all rfl)) rfl (by with_unfolding_all rfl)).trans ?_
  show am_Wp _ 0 642 _ _ _ _ = _
  refine (eq_ald (e := (.iaload, 1, 0, 0, 0)) (by with_unfolding_all rfl) rfl (n := nS) (by with_unfolding_all rfl) h2).trans ?_
  show am_Wp _ 0 643 _ _ _ _ = _
  exact eq_call2 (e := (.invokevirtual 74, 3, 0, 140, 225)) (as := [.ref 16, .int (M 0 (x3 + 1).toNatClampNeg), .int (M 0 (x3 + 2).toNatClampNeg)]) (r := []) (n := 3) (m := 3) (by with_unfolding_all rfl) rfl (by decide) (by with_unfolding_all rfl) (by decide) (by with_unfolding_all rfl) ⟨fun _ => am_rec_ok (c := 13) (by with_unfolding_all rfl) (by decide +kernel), fun z => by simp at z⟩
set_option maxRecDepth 20000 in
theorem b_0_646 {d nS : Nat} {x3 s0 : Int32} {M : am_M} {Q : Option Value → am_H → Prop} (h1 : vp_in (x3 + 1) nS) (h2 : vp_in (x3 + 2) nS) : am_Wp (d + 1) 0 646 [.ref 0, .ref 16, .ref 205, .int x3] [.int s0] (hp nS M) Q = am_Wp d 250 0 [.ref 205, .int (M 0 (x3 + 1).toNatClampNeg), .int (M 0 (x3 + 2).toNatClampNeg)] [] (hp nS M) (fun v h1 => am_Wp (d + 1) 0 660 [.ref 0, .ref 16, .ref 205, .int x3] (am_ans v [.int s0]) h1 Q) := by
  refine (eq_step (e := (.aload_n 2, 1, 0, 0, 0)) (q := (647, [.ref 0, .ref 16, .ref 205, .int x3], [.ref 205, .int s0], hp nS M)) (am_cF_to (by with_unfolding_all rfl)) rfl (by with_unfolding_all rfl)).trans ?_
  show am_Wp _ 0 647 _ _ _ _ = _
  refine (eq_step (e := (.aload_n 0, 1, 0, 0, 0)) (q := (648, [.ref 0, .ref 16, .ref 205, .int x3], [.ref 0, .ref 205, .int s0], hp nS M)) (am_cF_to (by with_unfolding_all rfl)) rfl (by with_unfolding_all rfl)).trans ?_
  show am_Wp _ 0 648 _ _ _ _ = _
  refine (eq_step (e := (.iload_n 3, 1, 0, 0, 0)) (q := (649, [.ref 0, .ref 16, .ref 205, .int x3], [.int x3, .ref 0, .ref 205, .int s0], hp nS M)) (am_cF_to (by with_unfolding_all rfl)) rfl (by with_unfolding_all rfl)).trans ?_
  show am_Wp _ 0 649 _ _ _ _ = _
  refine (eq_step (e := (.iconst 1, 1, 0, 0, 0)) (q := (650, [.ref 0, .ref 16, .ref 205, .int x3], [.int 1, .int x3, .ref 0, .ref 205, .int s0], hp nS M)) (am_cF_to (by with_unfolding_all rfl)) rfl (by with_unfolding_all rfl)).trans ?_
  show am_Wp _ 0 650 _ _ _ _ = _
  refine (eq_step (e := (.iadd, 1, 0, 0, 0)) (q := (651, [.ref 0, .ref 16, .ref 205, .int x3], [.int (x3 + 1), .ref 0, .ref 205, .int s0], hp nS M)) (am_cF_to (by with_unfolding_all rfl)) rfl (by with_unfolding_all rfl)).trans ?_
  show am_Wp _ 0 651 _ _ _ _ = _
  refine (eq_ald (e := (.iaload, 1, 0, 0, 0)) (by with_unfolding_all rfl) rfl (n := nS) (by with_unfolding_all rfl) h1).trans ?_
  show am_Wp _ 0 652 _ _ _ _ = _
  refine (eq_step (e := (.aload_n 0, 1, 0, 0, 0)) (q := (653, [.ref 0, .ref 16, .ref 205, .int x3], [.ref 0, .int (M 0 (x3 + 1).toNatClampNeg), .ref 205, .int s0], hp nS M)) (am_cF_to (by with_unfolding_all rfl)) rfl (by with_unfolding_all rfl)).trans ?_
  show am_Wp _ 0 653 _ _ _ _ = _
  refine (eq_step (e := (.iload_n 3, 1, 0, 0, 0)) (q := (654, [.ref 0, .ref 16, .ref 205, .int x3], [.int x3, .ref 0, .int (M 0 (x3 + 1).toNatClampNeg), .ref 205, .int s0], hp nS M)) (am_cF_to (by with_unfolding_all rfl)) rfl (by with_unfolding_all rfl)).trans ?_
  show am_Wp _ 0 654 _ _ _ _ = _
  refine (eq_step (e := (.iconst 2, 1, 0, 0, 0)) (q := (655, [.ref 0, .ref 16, .ref 205, .int x3], [.int 2, .int x3, .ref 0, .int (M 0 (x3 + 1).toNatClampNeg), .ref 205, .int s0], hp nS M)) (am_cF_to (by with_unfolding_all rfl)) rfl (by with_unfolding_all rfl)).trans ?_
  show am_Wp _ 0 655 _ _ _ _ = _
  refine (eq_step (e := (.iadd, 1, 0, 0, 0)) (q := (656, [.ref 0, .ref 16, .ref 205, .int x3], [.int (x3 + 2), .ref 0, .int (M 0 (x3 + 1).toNatClampNeg), .ref 205, .int s0], hp nS M)) (am_cF_to (by with_unfolding_all rfl)) rfl (by with_unfolding_all rfl)).trans ?_
  show am_Wp _ 0 656 _ _ _ _ = _
  refine (eq_ald (e := (.iaload, 1, 0, 0, 0)) (by with_unfolding_all rfl) rfl (n := nS) (by with_unfolding_all rfl) h2).trans ?_
  show am_Wp _ 0 657 _ _ _ _ = _
  exact eq_call2 (e := (.invokevirtual 77, 3, 0, 250, 226)) (as := [.ref 205, .int (M 0 (x3 + 1).toNatClampNeg), .int (M 0 (x3 + 2).toNatClampNeg)]) (r := [.int s0]) (n := 3) (m := 3) (by with_unfolding_all rfl) rfl (by decide) (by with_unfolding_all rfl) (by decide) (by with_unfolding_all rfl) ⟨fun _ => am_rec_ok (c := 14) (by with_unfolding_all rfl) (by decide +kernel), fun z => by simp at z⟩
set_option maxRecDepth 20000 in
theorem b_0_660 {d nS : Nat} {x3 s0 s1 : Int32} {M : am_M} {Q : Option Value → am_H → Prop} : am_Wp d 0 660 [.ref 0, .ref 16, .ref 205, .int x3] [.int s1, .int s0] (hp nS M) Q = if s0 = s1 then am_Wp d 0 1410 [.ref 0, .ref 16, .ref 205, .int x3] [] (hp nS M) Q else am_Wp d 0 663 [.ref 0, .ref 16, .ref 205, .int x3] [] (hp nS M) Q := by
  exact eq_cmp_eq (by with_unfolding_all rfl)
set_option maxRecDepth 20000 in
theorem b_0_663 {d nS : Nat} {x3 : Int32} {M : am_M} {Q : Option Value → am_H → Prop} : am_Wp d 0 663 [.ref 0, .ref 16, .ref 205, .int x3] [] (hp nS M) Q = Q (some (.int 0)) (hp nS M) := by
  refine (eq_step (e := (.iconst 0, 1, 0, 0, 0)) (q := (664, [.ref 0, .ref 16, .ref 205, .int x3], [.int 0], hp nS M)) (am_cF_to (by with_unfolding_all rfl)) rfl (by with_unfolding_all rfl)).trans ?_
  show am_Wp _ 0 664 _ _ _ _ = _
  exact eq_retI2 (e := (.ireturn, 1, 0, 0, 0)) (t := .boolean) (by with_unfolding_all rfl) rfl (by with_unfolding_all rfl) rfl
set_option maxRecDepth 20000 in
theorem b_0_665 {d nS : Nat} {x3 : Int32} {M : am_M} {Q : Option Value → am_H → Prop} (h1 : vp_in (x3 + 1) nS) (h2 : vp_in (x3 + 2) nS) : am_Wp (d + 1) 0 665 [.ref 0, .ref 16, .ref 205, .int x3] [] (hp nS M) Q = am_Wp d 141 0 [.ref 16, .int (M 0 (x3 + 1).toNatClampNeg), .int (M 0 (x3 + 2).toNatClampNeg), .retAddr 0] [] (hp nS M) (fun v h1 => am_Wp (d + 1) 0 679 [.ref 0, .ref 16, .ref 205, .int x3] (am_ans v []) h1 Q) := by
  refine (eq_step (e := (.aload_n 1, 1, 0, 0, 0)) (q := (666, [.ref 0, .ref 16, .ref 205, .int x3], [.ref 16], hp nS M)) (am_cF_to (by with_unfolding_all rfl)) rfl (by with_unfolding_all rfl)).trans ?_
  show am_Wp _ 0 666 _ _ _ _ = _
  refine (eq_step (e := (.aload_n 0, 1, 0, 0, 0)) (q := (667, [.ref 0, .ref 16, .ref 205, .int x3], [.ref 0, .ref 16], hp nS M)) (am_cF_to (by with_unfolding_all rfl)) rfl (by with_unfolding_all rfl)).trans ?_
  show am_Wp _ 0 667 _ _ _ _ = _
  refine (eq_step (e := (.iload_n 3, 1, 0, 0, 0)) (q := (668, [.ref 0, .ref 16, .ref 205, .int x3], [.int x3, .ref 0, .ref 16], hp nS M)) (am_cF_to (by with_unfolding_all rfl)) rfl (by with_unfolding_all rfl)).trans ?_
  show am_Wp _ 0 668 _ _ _ _ = _
  refine (eq_step (e := (.iconst 1, 1, 0, 0, 0)) (q := (669, [.ref 0, .ref 16, .ref 205, .int x3], [.int 1, .int x3, .ref 0, .ref 16], hp nS M)) (am_cF_to (by with_unfolding_all rfl)) rfl (by with_unfolding_all rfl)).trans ?_
  show am_Wp _ 0 669 _ _ _ _ = _
  refine (eq_step (e := (.iadd, 1, 0, 0, 0)) (q := (670, [.ref 0, .ref 16, .ref 205, .int x3], [.int (x3 + 1), .ref 0, .ref 16], hp nS M)) (am_cF_to (by with_unfolding_all rfl)) rfl (by with_unfolding_all rfl)).trans ?_
  show am_Wp _ 0 670 _ _ _ _ = _
  refine (eq_ald (e := (.iaload, 1, 0, 0, 0)) (by with_unfolding_all rfl) rfl (n := nS) (by with_unfolding_all rfl) h1).trans ?_
  show am_Wp _ 0 671 _ _ _ _ = _
  refine (eq_step (e := (.aload_n 0, 1, 0, 0, 0)) (q := (672, [.ref 0, .ref 16, .ref 205, .int x3], [.ref 0, .int (M 0 (x3 + 1).toNatClampNeg), .ref 16], hp nS M)) (am_cF_to (by with_unfolding_all rfl)) rfl (by with_unfolding_all rfl)).trans ?_
  show am_Wp _ 0 672 _ _ _ _ = _
  refine (eq_step (e := (.iload_n 3, 1, 0, 0, 0)) (q := (673, [.ref 0, .ref 16, .ref 205, .int x3], [.int x3, .ref 0, .int (M 0 (x3 + 1).toNatClampNeg), .ref 16], hp nS M)) (am_cF_to (by with_unfolding_all rfl)) rfl (by with_unfolding_all rfl)).trans ?_
  show am_Wp _ 0 673 _ _ _ _ = _
  refine (eq_step (e := (.iconst 2, 1, 0, 0, 0)) (q := (674, [.ref 0, .ref 16, .ref 205, .int x3], [.int 2, .int x3, .ref 0, .int (M 0 (x3 + 1).toNatClampNeg), .ref 16], hp nS M)) (am_cF_to (by with_unfolding_all rfl)) rfl (by with_unfolding_all rfl)).trans ?_
  show am_Wp _ 0 674 _ _ _ _ = _
  refine (eq_step (e := (.iadd, 1, 0, 0, 0)) (q := (675, [.ref 0, .ref 16, .ref 205, .int x3], [.int (x3 + 2), .ref 0, .int (M 0 (x3 + 1).toNatClampNeg), .ref 16], hp nS M)) (am_cF_to (by with_unfolding_all rfl)) rfl (by with_unfolding_all rfl)).trans ?_
  show am_Wp _ 0 675 _ _ _ _ = _
  refine (eq_ald (e := (.iaload, 1, 0, 0, 0)) (by with_unfolding_all rfl) rfl (n := nS) (by with_unfolding_all rfl) h2).trans ?_
  show am_Wp _ 0 676 _ _ _ _ = _
  exact eq_call2 (e := (.invokevirtual 78, 3, 0, 141, 227)) (as := [.ref 16, .int (M 0 (x3 + 1).toNatClampNeg), .int (M 0 (x3 + 2).toNatClampNeg)]) (r := []) (n := 3) (m := 4) (by with_unfolding_all rfl) rfl (by decide) (by with_unfolding_all rfl) (by decide) (by with_unfolding_all rfl) ⟨fun _ => am_rec_ok (c := 13) (by with_unfolding_all rfl) (by decide +kernel), fun z => by simp at z⟩
set_option maxRecDepth 20000 in
theorem b_0_679 {d nS : Nat} {x3 s0 : Int32} {M : am_M} {Q : Option Value → am_H → Prop} (h1 : vp_in (x3 + 1) nS) (h2 : vp_in (x3 + 2) nS) : am_Wp (d + 1) 0 679 [.ref 0, .ref 16, .ref 205, .int x3] [.int s0] (hp nS M) Q = am_Wp d 251 0 [.ref 205, .int (M 0 (x3 + 1).toNatClampNeg), .int (M 0 (x3 + 2).toNatClampNeg), .retAddr 0] [] (hp nS M) (fun v h1 => am_Wp (d + 1) 0 693 [.ref 0, .ref 16, .ref 205, .int x3] (am_ans v [.int s0]) h1 Q) := by
  refine (eq_step (e := (.aload_n 2, 1, 0, 0, 0)) (q := (680, [.ref 0, .ref 16, .ref 205, .int x3], [.ref 205, .int s0], hp nS M)) (am_cF_to (by with_unfolding_all rfl)) rfl (by with_unfolding_all rfl)).trans ?_
  show am_Wp _ 0 680 _ _ _ _ = _
  refine (eq_step (e := (.aload_n 0, 1, 0, 0, 0)) (q := (681, [.ref 0, .ref 16, .ref 205, .int x3], [.ref 0, .ref 205, .int s0], hp nS M)) (am_cF_to (by with_unfolding_all rfl)) rfl (by with_unfolding_all rfl)).trans ?_
  show am_Wp _ 0 681 _ _ _ _ = _
  refine (eq_step (e := (.iload_n 3, 1, 0, 0, 0)) (q := (682, [.ref 0, .ref 16, .ref 205, .int x3], [.int x3, .ref 0, .ref 205, .int s0], hp nS M)) (am_cF_to (by with_unfolding_all rfl)) rfl (by with_unfolding_all rfl)).trans ?_
  show am_Wp _ 0 682 _ _ _ _ = _
  refine (eq_step (e := (.iconst 1, 1, 0, 0, 0)) (q := (683, [.ref 0, .ref 16, .ref 205, .int x3], [.int 1, .int x3, .ref 0, .ref 205, .int s0], hp nS M)) (am_cF_to (by with_unfolding_all rfl)) rfl (by with_unfolding_all rfl)).trans ?_
  show am_Wp _ 0 683 _ _ _ _ = _
  refine (eq_step (e := (.iadd, 1, 0, 0, 0)) (q := (684, [.ref 0, .ref 16, .ref 205, .int x3], [.int (x3 + 1), .ref 0, .ref 205, .int s0], hp nS M)) (am_cF_to (by with_unfolding_all rfl)) rfl (by with_unfolding_all rfl)).trans ?_
  show am_Wp _ 0 684 _ _ _ _ = _
  refine (eq_ald (e := (.iaload, 1, 0, 0, 0)) (by with_unfolding_all rfl) rfl (n := nS) (by with_unfolding_all rfl) h1).trans ?_
  show am_Wp _ 0 685 _ _ _ _ = _
  refine (eq_step (e := (.aload_n 0, 1, 0, 0, 0)) (q := (686, [.ref 0, .ref 16, .ref 205, .int x3], [.ref 0, .int (M 0 (x3 + 1).toNatClampNeg), .ref 205, .int s0], hp nS M)) (am_cF_to (by with_unfolding_all rfl)) rfl (by with_unfolding_all rfl)).trans ?_
  show am_Wp _ 0 686 _ _ _ _ = _
  refine (eq_step (e := (.iload_n 3, 1, 0, 0, 0)) (q := (687, [.ref 0, .ref 16, .ref 205, .int x3], [.int x3, .ref 0, .int (M 0 (x3 + 1).toNatClampNeg), .ref 205, .int s0], hp nS M)) (am_cF_to (by with_unfolding_all rfl)) rfl (by with_unfolding_all rfl)).trans ?_
  show am_Wp _ 0 687 _ _ _ _ = _
  refine (eq_step (e := (.iconst 2, 1, 0, 0, 0)) (q := (688, [.ref 0, .ref 16, .ref 205, .int x3], [.int 2, .int x3, .ref 0, .int (M 0 (x3 + 1).toNatClampNeg), .ref 205, .int s0], hp nS M)) (am_cF_to (by with_unfolding_all rfl)) rfl (by with_unfolding_all rfl)).trans ?_
  show am_Wp _ 0 688 _ _ _ _ = _
  refine (eq_step (e := (.iadd, 1, 0, 0, 0)) (q := (689, [.ref 0, .ref 16, .ref 205, .int x3], [.int (x3 + 2), .ref 0, .int (M 0 (x3 + 1).toNatClampNeg), .ref 205, .int s0], hp nS M)) (am_cF_to (by with_unfolding_all rfl)) rfl (by with_unfolding_all rfl)).trans ?_
  show am_Wp _ 0 689 _ _ _ _ = _
  refine (eq_ald (e := (.iaload, 1, 0, 0, 0)) (by with_unfolding_all rfl) rfl (n := nS) (by with_unfolding_all rfl) h2).trans ?_
  show am_Wp _ 0 690 _ _ _ _ = _
  exact eq_call2 (e := (.invokevirtual 81, 3, 0, 251, 228)) (as := [.ref 205, .int (M 0 (x3 + 1).toNatClampNeg), .int (M 0 (x3 + 2).toNatClampNeg)]) (r := [.int s0]) (n := 3) (m := 4) (by with_unfolding_all rfl) rfl (by decide) (by with_unfolding_all rfl) (by decide) (by with_unfolding_all rfl) ⟨fun _ => am_rec_ok (c := 14) (by with_unfolding_all rfl) (by decide +kernel), fun z => by simp at z⟩
set_option maxRecDepth 20000 in
theorem b_0_693 {d nS : Nat} {x3 s0 s1 : Int32} {M : am_M} {Q : Option Value → am_H → Prop} : am_Wp d 0 693 [.ref 0, .ref 16, .ref 205, .int x3] [.int s1, .int s0] (hp nS M) Q = if s0 = s1 then am_Wp d 0 1410 [.ref 0, .ref 16, .ref 205, .int x3] [] (hp nS M) Q else am_Wp d 0 696 [.ref 0, .ref 16, .ref 205, .int x3] [] (hp nS M) Q := by
  exact eq_cmp_eq (by with_unfolding_all rfl)
set_option maxRecDepth 20000 in
theorem b_0_696 {d nS : Nat} {x3 : Int32} {M : am_M} {Q : Option Value → am_H → Prop} : am_Wp d 0 696 [.ref 0, .ref 16, .ref 205, .int x3] [] (hp nS M) Q = Q (some (.int 0)) (hp nS M) := by
  refine (eq_step (e := (.iconst 0, 1, 0, 0, 0)) (q := (697, [.ref 0, .ref 16, .ref 205, .int x3], [.int 0], hp nS M)) (am_cF_to (by with_unfolding_all rfl)) rfl (by with_unfolding_all rfl)).trans ?_
  show am_Wp _ 0 697 _ _ _ _ = _
  exact eq_retI2 (e := (.ireturn, 1, 0, 0, 0)) (t := .boolean) (by with_unfolding_all rfl) rfl (by with_unfolding_all rfl) rfl
set_option maxRecDepth 20000 in
theorem b_0_698 {d nS : Nat} {x3 : Int32} {M : am_M} {Q : Option Value → am_H → Prop} (h1 : vp_in (x3 + 1) nS) : am_Wp (d + 1) 0 698 [.ref 0, .ref 16, .ref 205, .int x3] [] (hp nS M) Q = am_Wp d 143 0 [.ref 16, .int (M 0 (x3 + 1).toNatClampNeg), .retAddr 0] [] (hp nS M) (fun v h1 => am_Wp (d + 1) 0 707 [.ref 0, .ref 16, .ref 205, .int x3] (am_ans v []) h1 Q) := by
  refine (eq_step (e := (.aload_n 1, 1, 0, 0, 0)) (q := (699, [.ref 0, .ref 16, .ref 205, .int x3], [.ref 16], hp nS M)) (am_cF_to (by with_unfolding_all rfl)) rfl (by with_unfolding_all rfl)).trans ?_
  show am_Wp _ 0 699 _ _ _ _ = _
  refine (eq_step (e := (.aload_n 0, 1, 0, 0, 0)) (q := (700, [.ref 0, .ref 16, .ref 205, .int x3], [.ref 0, .ref 16], hp nS M)) (am_cF_to (by with_unfolding_all rfl)) rfl (by with_unfolding_all rfl)).trans ?_
  show am_Wp _ 0 700 _ _ _ _ = _
  refine (eq_step (e := (.iload_n 3, 1, 0, 0, 0)) (q := (701, [.ref 0, .ref 16, .ref 205, .int x3], [.int x3, .ref 0, .ref 16], hp nS M)) (am_cF_to (by with_unfolding_all rfl)) rfl (by with_unfolding_all rfl)).trans ?_
  show am_Wp _ 0 701 _ _ _ _ = _
  refine (eq_step (e := (.iconst 1, 1, 0, 0, 0)) (q := (702, [.ref 0, .ref 16, .ref 205, .int x3], [.int 1, .int x3, .ref 0, .ref 16], hp nS M)) (am_cF_to (by with_unfolding_all rfl)) rfl (by with_unfolding_all rfl)).trans ?_
  show am_Wp _ 0 702 _ _ _ _ = _
  refine (eq_step (e := (.iadd, 1, 0, 0, 0)) (q := (703, [.ref 0, .ref 16, .ref 205, .int x3], [.int (x3 + 1), .ref 0, .ref 16], hp nS M)) (am_cF_to (by with_unfolding_all rfl)) rfl (by with_unfolding_all rfl)).trans ?_
  show am_Wp _ 0 703 _ _ _ _ = _
  refine (eq_ald (e := (.iaload, 1, 0, 0, 0)) (by with_unfolding_all rfl) rfl (n := nS) (by with_unfolding_all rfl) h1).trans ?_
  show am_Wp _ 0 704 _ _ _ _ = _
  exact eq_call2 (e := (.invokevirtual 82, 3, 0, 143, 229)) (as := [.ref 16, .int (M 0 (x3 + 1).toNatClampNeg)]) (r := []) (n := 2) (m := 3) (by with_unfolding_all rfl) rfl (by decide) (by with_unfolding_all rfl) (by decide) (by with_unfolding_all rfl) ⟨fun _ => am_rec_ok (c := 13) (by with_unfolding_all rfl) (by decide +kernel), fun z => by simp at z⟩
set_option maxRecDepth 20000 in
theorem b_0_707 {d nS : Nat} {x3 s0 : Int32} {M : am_M} {Q : Option Value → am_H → Prop} (h1 : vp_in (x3 + 1) nS) : am_Wp (d + 1) 0 707 [.ref 0, .ref 16, .ref 205, .int x3] [.int s0] (hp nS M) Q = am_Wp d 255 0 [.ref 205, .int (M 0 (x3 + 1).toNatClampNeg), .retAddr 0] [] (hp nS M) (fun v h1 => am_Wp (d + 1) 0 716 [.ref 0, .ref 16, .ref 205, .int x3] (am_ans v [.int s0]) h1 Q) := by
  refine (eq_step (e := (.aload_n 2, 1, 0, 0, 0)) (q := (708, [.ref 0, .ref 16, .ref 205, .int x3], [.ref 205, .int s0], hp nS M)) (am_cF_to (by with_unfolding_all rfl)) rfl (by with_unfolding_all rfl)).trans ?_
  show am_Wp _ 0 708 _ _ _ _ = _
  refine (eq_step (e := (.aload_n 0, 1, 0, 0, 0)) (q := (709, [.ref 0, .ref 16, .ref 205, .int x3], [.ref 0, .ref 205, .int s0], hp nS M)) (am_cF_to (by with_unfolding_all rfl)) rfl (by with_unfolding_all rfl)).trans ?_
  show am_Wp _ 0 709 _ _ _ _ = _
  refine (eq_step (e := (.iload_n 3, 1, 0, 0, 0)) (q := (710, [.ref 0, .ref 16, .ref 205, .int x3], [.int x3, .ref 0, .ref 205, .int s0], hp nS M)) (am_cF_to (by with_unfolding_all rfl)) rfl (by with_unfolding_all rfl)).trans ?_
  show am_Wp _ 0 710 _ _ _ _ = _
  refine (eq_step (e := (.iconst 1, 1, 0, 0, 0)) (q := (711, [.ref 0, .ref 16, .ref 205, .int x3], [.int 1, .int x3, .ref 0, .ref 205, .int s0], hp nS M)) (am_cF_to (by with_unfolding_all rfl)) rfl (by with_unfolding_all rfl)).trans ?_
  show am_Wp _ 0 711 _ _ _ _ = _
  refine (eq_step (e := (.iadd, 1, 0, 0, 0)) (q := (712, [.ref 0, .ref 16, .ref 205, .int x3], [.int (x3 + 1), .ref 0, .ref 205, .int s0], hp nS M)) (am_cF_to (by with_unfolding_all rfl)) rfl (by with_unfolding_all rfl)).trans ?_
  show am_Wp _ 0 712 _ _ _ _ = _
  refine (eq_ald (e := (.iaload, 1, 0, 0, 0)) (by with_unfolding_all rfl) rfl (n := nS) (by with_unfolding_all rfl) h1).trans ?_
  show am_Wp _ 0 713 _ _ _ _ = _
  exact eq_call2 (e := (.invokevirtual 85, 3, 0, 255, 230)) (as := [.ref 205, .int (M 0 (x3 + 1).toNatClampNeg)]) (r := [.int s0]) (n := 2) (m := 3) (by with_unfolding_all rfl) rfl (by decide) (by with_unfolding_all rfl) (by decide) (by with_unfolding_all rfl) ⟨fun _ => am_rec_ok (c := 14) (by with_unfolding_all rfl) (by decide +kernel), fun z => by simp at z⟩
set_option maxRecDepth 20000 in
theorem b_0_716 {d nS : Nat} {x3 s0 s1 : Int32} {M : am_M} {Q : Option Value → am_H → Prop} : am_Wp d 0 716 [.ref 0, .ref 16, .ref 205, .int x3] [.int s1, .int s0] (hp nS M) Q = if s0 = s1 then am_Wp d 0 1410 [.ref 0, .ref 16, .ref 205, .int x3] [] (hp nS M) Q else am_Wp d 0 719 [.ref 0, .ref 16, .ref 205, .int x3] [] (hp nS M) Q := by
  exact eq_cmp_eq (by with_unfolding_all rfl)
set_option maxRecDepth 20000 in
theorem b_0_719 {d nS : Nat} {x3 : Int32} {M : am_M} {Q : Option Value → am_H → Prop} : am_Wp d 0 719 [.ref 0, .ref 16, .ref 205, .int x3] [] (hp nS M) Q = Q (some (.int 0)) (hp nS M) := by
  refine (eq_step (e := (.iconst 0, 1, 0, 0, 0)) (q := (720, [.ref 0, .ref 16, .ref 205, .int x3], [.int 0], hp nS M)) (am_cF_to (by with_unfolding_all rfl)) rfl (by with_unfolding_all rfl)).trans ?_
  show am_Wp _ 0 720 _ _ _ _ = _
  exact eq_retI2 (e := (.ireturn, 1, 0, 0, 0)) (t := .boolean) (by with_unfolding_all rfl) rfl (by with_unfolding_all rfl) rfl
set_option maxRecDepth 20000 in
theorem b_0_721 {d nS : Nat} {x3 : Int32} {M : am_M} {Q : Option Value → am_H → Prop} (h1 : vp_in (x3 + 1) nS) : am_Wp (d + 1) 0 721 [.ref 0, .ref 16, .ref 205, .int x3] [] (hp nS M) Q = am_Wp d 144 0 [.ref 16, .int (M 0 (x3 + 1).toNatClampNeg)] [] (hp nS M) (fun v h1 => am_Wp (d + 1) 0 730 [.ref 0, .ref 16, .ref 205, .int x3] (am_ans v []) h1 Q) := by
  refine (eq_step (e := (.aload_n 1, 1, 0, 0, 0)) (q := (722, [.ref 0, .ref 16, .ref 205, .int x3], [.ref 16], hp nS M)) (am_cF_to (by with_unfolding_all rfl)) rfl (by with_unfolding_all rfl)).trans ?_
  show am_Wp _ 0 722 _ _ _ _ = _
  refine (eq_step (e := (.aload_n 0, 1, 0, 0, 0)) (q := (723, [.ref 0, .ref 16, .ref 205, .int x3], [.ref 0, .ref 16], hp nS M)) (am_cF_to (by with_unfolding_all rfl)) rfl (by with_unfolding_all rfl)).trans ?_
  show am_Wp _ 0 723 _ _ _ _ = _
  refine (eq_step (e := (.iload_n 3, 1, 0, 0, 0)) (q := (724, [.ref 0, .ref 16, .ref 205, .int x3], [.int x3, .ref 0, .ref 16], hp nS M)) (am_cF_to (by with_unfolding_all rfl)) rfl (by with_unfolding_all rfl)).trans ?_
  show am_Wp _ 0 724 _ _ _ _ = _
  refine (eq_step (e := (.iconst 1, 1, 0, 0, 0)) (q := (725, [.ref 0, .ref 16, .ref 205, .int x3], [.int 1, .int x3, .ref 0, .ref 16], hp nS M)) (am_cF_to (by with_unfolding_all rfl)) rfl (by with_unfolding_all rfl)).trans ?_
  show am_Wp _ 0 725 _ _ _ _ = _
  refine (eq_step (e := (.iadd, 1, 0, 0, 0)) (q := (726, [.ref 0, .ref 16, .ref 205, .int x3], [.int (x3 + 1), .ref 0, .ref 16], hp nS M)) (am_cF_to (by with_unfolding_all rfl)) rfl (by with_unfolding_all rfl)).trans ?_
  show am_Wp _ 0 726 _ _ _ _ = _
  refine (eq_ald (e := (.iaload, 1, 0, 0, 0)) (by with_unfolding_all rfl) rfl (n := nS) (by with_unfolding_all rfl) h1).trans ?_
  show am_Wp _ 0 727 _ _ _ _ = _
  exact eq_call2 (e := (.invokevirtual 86, 3, 0, 144, 231)) (as := [.ref 16, .int (M 0 (x3 + 1).toNatClampNeg)]) (r := []) (n := 2) (m := 2) (by with_unfolding_all rfl) rfl (by decide) (by with_unfolding_all rfl) (by decide) (by with_unfolding_all rfl) ⟨fun _ => am_rec_ok (c := 13) (by with_unfolding_all rfl) (by decide +kernel), fun z => by simp at z⟩
set_option maxRecDepth 20000 in
theorem b_0_730 {d nS : Nat} {x3 s0 : Int32} {M : am_M} {Q : Option Value → am_H → Prop} (h1 : vp_in (x3 + 1) nS) : am_Wp (d + 1) 0 730 [.ref 0, .ref 16, .ref 205, .int x3] [.int s0] (hp nS M) Q = am_Wp d 256 0 [.ref 205, .int (M 0 (x3 + 1).toNatClampNeg)] [] (hp nS M) (fun v h1 => am_Wp (d + 1) 0 739 [.ref 0, .ref 16, .ref 205, .int x3] (am_ans v [.int s0]) h1 Q) := by
  refine (eq_step (e := (.aload_n 2, 1, 0, 0, 0)) (q := (731, [.ref 0, .ref 16, .ref 205, .int x3], [.ref 205, .int s0], hp nS M)) (am_cF_to (by with_unfolding_all rfl)) rfl (by with_unfolding_all rfl)).trans ?_
  show am_Wp _ 0 731 _ _ _ _ = _
  refine (eq_step (e := (.aload_n 0, 1, 0, 0, 0)) (q := (732, [.ref 0, .ref 16, .ref 205, .int x3], [.ref 0, .ref 205, .int s0], hp nS M)) (am_cF_to (by with_unfolding_all rfl)) rfl (by with_unfolding_all rfl)).trans ?_
  show am_Wp _ 0 732 _ _ _ _ = _
  refine (eq_step (e := (.iload_n 3, 1, 0, 0, 0)) (q := (733, [.ref 0, .ref 16, .ref 205, .int x3], [.int x3, .ref 0, .ref 205, .int s0], hp nS M)) (am_cF_to (by with_unfolding_all rfl)) rfl (by with_unfolding_all rfl)).trans ?_
  show am_Wp _ 0 733 _ _ _ _ = _
  refine (eq_step (e := (.iconst 1, 1, 0, 0, 0)) (q := (734, [.ref 0, .ref 16, .ref 205, .int x3], [.int 1, .int x3, .ref 0, .ref 205, .int s0], hp nS M)) (am_cF_to (by with_unfolding_all rfl)) rfl (by with_unfolding_all rfl)).trans ?_
  show am_Wp _ 0 734 _ _ _ _ = _
  refine (eq_step (e := (.iadd, 1, 0, 0, 0)) (q := (735, [.ref 0, .ref 16, .ref 205, .int x3], [.int (x3 + 1), .ref 0, .ref 205, .int s0], hp nS M)) (am_cF_to (by with_unfolding_all rfl)) rfl (by with_unfolding_all rfl)).trans ?_
  show am_Wp _ 0 735 _ _ _ _ = _
  refine (eq_ald (e := (.iaload, 1, 0, 0, 0)) (by with_unfolding_all rfl) rfl (n := nS) (by with_unfolding_all rfl) h1).trans ?_
  show am_Wp _ 0 736 _ _ _ _ = _
  exact eq_call2 (e := (.invokevirtual 89, 3, 0, 256, 232)) (as := [.ref 205, .int (M 0 (x3 + 1).toNatClampNeg)]) (r := [.int s0]) (n := 2) (m := 2) (by with_unfolding_all rfl) rfl (by decide) (by with_unfolding_all rfl) (by decide) (by with_unfolding_all rfl) ⟨fun _ => am_rec_ok (c := 14) (by with_unfolding_all rfl) (by decide +kernel), fun z => by simp at z⟩
set_option maxRecDepth 20000 in
theorem b_0_739 {d nS : Nat} {x3 s0 s1 : Int32} {M : am_M} {Q : Option Value → am_H → Prop} : am_Wp d 0 739 [.ref 0, .ref 16, .ref 205, .int x3] [.int s1, .int s0] (hp nS M) Q = if s0 = s1 then am_Wp d 0 1410 [.ref 0, .ref 16, .ref 205, .int x3] [] (hp nS M) Q else am_Wp d 0 742 [.ref 0, .ref 16, .ref 205, .int x3] [] (hp nS M) Q := by
  exact eq_cmp_eq (by with_unfolding_all rfl)
set_option maxRecDepth 20000 in
theorem b_0_742 {d nS : Nat} {x3 : Int32} {M : am_M} {Q : Option Value → am_H → Prop} : am_Wp d 0 742 [.ref 0, .ref 16, .ref 205, .int x3] [] (hp nS M) Q = Q (some (.int 0)) (hp nS M) := by
  refine (eq_step (e := (.iconst 0, 1, 0, 0, 0)) (q := (743, [.ref 0, .ref 16, .ref 205, .int x3], [.int 0], hp nS M)) (am_cF_to (by with_unfolding_all rfl)) rfl (by with_unfolding_all rfl)).trans ?_
  show am_Wp _ 0 743 _ _ _ _ = _
  exact eq_retI2 (e := (.ireturn, 1, 0, 0, 0)) (t := .boolean) (by with_unfolding_all rfl) rfl (by with_unfolding_all rfl) rfl
set_option maxRecDepth 20000 in
theorem b_0_744 {d nS : Nat} {x3 : Int32} {M : am_M} {Q : Option Value → am_H → Prop} (h1 : vp_in (x3 + 1) nS) (h2 : vp_in (x3 + 2) nS) : am_Wp (d + 1) 0 744 [.ref 0, .ref 16, .ref 205, .int x3] [] (hp nS M) Q = am_Wp d 145 0 [.ref 16, .int (M 0 (x3 + 1).toNatClampNeg), .int (M 0 (x3 + 2).toNatClampNeg)] [] (hp nS M) (fun v h1 => am_Wp (d + 1) 0 758 [.ref 0, .ref 16, .ref 205, .int x3] (am_ans v []) h1 Q) := by
  refine (eq_step (e := (.aload_n 1, 1, 0, 0, 0)) (q := (745, [.ref 0, .ref 16, .ref 205, .int x3], [.ref 16], hp nS M)) (am_cF_to (by with_unfolding_all rfl)) rfl (by with_unfolding_all rfl)).trans ?_
  show am_Wp _ 0 745 _ _ _ _ = _
  refine (eq_step (e := (.aload_n 0, 1, 0, 0, 0)) (q := (746, [.ref 0, .ref 16, .ref 205, .int x3], [.ref 0, .ref 16], hp nS M)) (am_cF_to (by with_unfolding_all rfl)) rfl (by with_unfolding_all rfl)).trans ?_
  show am_Wp _ 0 746 _ _ _ _ = _
  refine (eq_step (e := (.iload_n 3, 1, 0, 0, 0)) (q := (747, [.ref 0, .ref 16, .ref 205, .int x3], [.int x3, .ref 0, .ref 16], hp nS M)) (am_cF_to (by with_unfolding_all rfl)) rfl (by with_unfolding_all rfl)).trans ?_
  show am_Wp _ 0 747 _ _ _ _ = _
  refine (eq_step (e := (.iconst 1, 1, 0, 0, 0)) (q := (748, [.ref 0, .ref 16, .ref 205, .int x3], [.int 1, .int x3, .ref 0, .ref 16], hp nS M)) (am_cF_to (by with_unfolding_all rfl)) rfl (by with_unfolding_all rfl)).trans ?_
  show am_Wp _ 0 748 _ _ _ _ = _
  refine (eq_step (e := (.iadd, 1, 0, 0, 0)) (q := (749, [.ref 0, .ref 16, .ref 205, .int x3], [.int (x3 + 1), .ref 0, .ref 16], hp nS M)) (am_cF_to (by with_unfolding_all rfl)) rfl (by with_unfolding_all rfl)).trans ?_
  show am_Wp _ 0 749 _ _ _ _ = _
  refine (eq_ald (e := (.iaload, 1, 0, 0, 0)) (by with_unfolding_all rfl) rfl (n := nS) (by with_unfolding_all rfl) h1).trans ?_
  show am_Wp _ 0 750 _ _ _ _ = _
  refine (eq_step (e := (.aload_n 0, 1, 0, 0, 0)) (q := (751, [.ref 0, .ref 16, .ref 205, .int x3], [.ref 0, .int (M 0 (x3 + 1).toNatClampNeg), .ref 16], hp nS M)) (am_cF_to (by with_unfolding_all rfl)) rfl (by with_unfolding_all rfl)).trans ?_
  show am_Wp _ 0 751 _ _ _ _ = _
  refine (eq_step (e := (.iload_n 3, 1, 0, 0, 0)) (q := (752, [.ref 0, .ref 16, .ref 205, .int x3], [.int x3, .ref 0, .int (M 0 (x3 + 1).toNatClampNeg), .ref 16], hp nS M)) (am_cF_to (by with_unfolding_all rfl)) rfl (by with_unfolding_all rfl)).trans ?_
  show am_Wp _ 0 752 _ _ _ _ = _
  refine (eq_step (e := (.iconst 2, 1, 0, 0, 0)) (q := (753, [.ref 0, .ref 16, .ref 205, .int x3], [.int 2, .int x3, .ref 0, .int (M 0 (x3 + 1).toNatClampNeg), .ref 16], hp nS M)) (am_cF_to (by with_unfolding_all rfl)) rfl (by with_unfolding_all rfl)).trans ?_
  show am_Wp _ 0 753 _ _ _ _ = _
  refine (eq_step (e := (.iadd, 1, 0, 0, 0)) (q := (754, [.ref 0, .ref 16, .ref 205, .int x3], [.int (x3 + 2), .ref 0, .int (M 0 (x3 + 1).toNatClampNeg), .ref 16], hp nS M)) (am_cF_to (by with_unfolding_all rfl)) rfl (by with_unfolding_all rfl)).trans ?_
  show am_Wp _ 0 754 _ _ _ _ = _
  refine (eq_ald (e := (.iaload, 1, 0, 0, 0)) (by with_unfolding_all rfl) rfl (n := nS) (by with_unfolding_all rfl) h2).trans ?_
  show am_Wp _ 0 755 _ _ _ _ = _
  exact eq_call2 (e := (.invokevirtual 90, 3, 0, 145, 233)) (as := [.ref 16, .int (M 0 (x3 + 1).toNatClampNeg), .int (M 0 (x3 + 2).toNatClampNeg)]) (r := []) (n := 3) (m := 3) (by with_unfolding_all rfl) rfl (by decide) (by with_unfolding_all rfl) (by decide) (by with_unfolding_all rfl) ⟨fun _ => am_rec_ok (c := 13) (by with_unfolding_all rfl) (by decide +kernel), fun z => by simp at z⟩
set_option maxRecDepth 20000 in
theorem b_0_758 {d nS : Nat} {x3 s0 : Int32} {M : am_M} {Q : Option Value → am_H → Prop} (h1 : vp_in (x3 + 1) nS) (h2 : vp_in (x3 + 2) nS) : am_Wp (d + 1) 0 758 [.ref 0, .ref 16, .ref 205, .int x3] [.int s0] (hp nS M) Q = am_Wp d 257 0 [.ref 205, .int (M 0 (x3 + 1).toNatClampNeg), .int (M 0 (x3 + 2).toNatClampNeg), .retAddr 0, .retAddr 0] [] (hp nS M) (fun v h1 => am_Wp (d + 1) 0 772 [.ref 0, .ref 16, .ref 205, .int x3] (am_ans v [.int s0]) h1 Q) := by
  refine (eq_step (e := (.aload_n 2, 1, 0, 0, 0)) (q := (759, [.ref 0, .ref 16, .ref 205, .int x3], [.ref 205, .int s0], hp nS M)) (am_cF_to (by with_unfolding_all rfl)) rfl (by with_unfolding_all rfl)).trans ?_
  show am_Wp _ 0 759 _ _ _ _ = _
  refine (eq_step (e := (.aload_n 0, 1, 0, 0, 0)) (q := (760, [.ref 0, .ref 16, .ref 205, .int x3], [.ref 0, .ref 205, .int s0], hp nS M)) (am_cF_to (by with_unfolding_all rfl)) rfl (by with_unfolding_all rfl)).trans ?_
  show am_Wp _ 0 760 _ _ _ _ = _
  refine (eq_step (e := (.iload_n 3, 1, 0, 0, 0)) (q := (761, [.ref 0, .ref 16, .ref 205, .int x3], [.int x3, .ref 0, .ref 205, .int s0], hp nS M)) (am_cF_to (by with_unfolding_all rfl)) rfl (by with_unfolding_all rfl)).trans ?_
  show am_Wp _ 0 761 _ _ _ _ = _
  refine (eq_step (e := (.iconst 1, 1, 0, 0, 0)) (q := (762, [.ref 0, .ref 16, .ref 205, .int x3], [.int 1, .int x3, .ref 0, .ref 205, .int s0], hp nS M)) (am_cF_to (by with_unfolding_all rfl)) rfl (by with_unfolding_all rfl)).trans ?_
  show am_Wp _ 0 762 _ _ _ _ = _
  refine (eq_step (e := (.iadd, 1, 0, 0, 0)) (q := (763, [.ref 0, .ref 16, .ref 205, .int x3], [.int (x3 + 1), .ref 0, .ref 205, .int s0], hp nS M)) (am_cF_to (by with_unfolding_all rfl)) rfl (by with_unfolding_all rfl)).trans ?_
  show am_Wp _ 0 763 _ _ _ _ = _
  refine (eq_ald (e := (.iaload, 1, 0, 0, 0)) (by with_unfolding_all rfl) rfl (n := nS) (by with_unfolding_all rfl) h1).trans ?_
  show am_Wp _ 0 764 _ _ _ _ = _
  refine (eq_step (e := (.aload_n 0, 1, 0, 0, 0)) (q := (765, [.ref 0, .ref 16, .ref 205, .int x3], [.ref 0, .int (M 0 (x3 + 1).toNatClampNeg), .ref 205, .int s0], hp nS M)) (am_cF_to (by with_unfolding_all rfl)) rfl (by with_unfolding_all rfl)).trans ?_
  show am_Wp _ 0 765 _ _ _ _ = _
  refine (eq_step (e := (.iload_n 3, 1, 0, 0, 0)) (q := (766, [.ref 0, .ref 16, .ref 205, .int x3], [.int x3, .ref 0, .int (M 0 (x3 + 1).toNatClampNeg), .ref 205, .int s0], hp nS M)) (am_cF_to (by with_unfolding_all rfl)) rfl (by with_unfolding_all rfl)).trans ?_
  show am_Wp _ 0 766 _ _ _ _ = _
  refine (eq_step (e := (.iconst 2, 1, 0, 0, 0)) (q := (767, [.ref 0, .ref 16, .ref 205, .int x3], [.int 2, .int x3, .ref 0, .int (M 0 (x3 + 1).toNatClampNeg), .ref 205, .int s0], hp nS M)) (am_cF_to (by with_unfolding_all rfl)) rfl (by with_unfolding_all rfl)).trans ?_
  show am_Wp _ 0 767 _ _ _ _ = _
  refine (eq_step (e := (.iadd, 1, 0, 0, 0)) (q := (768, [.ref 0, .ref 16, .ref 205, .int x3], [.int (x3 + 2), .ref 0, .int (M 0 (x3 + 1).toNatClampNeg), .ref 205, .int s0], hp nS M)) (am_cF_to (by with_unfolding_all rfl)) rfl (by with_unfolding_all rfl)).trans ?_
  show am_Wp _ 0 768 _ _ _ _ = _
  refine (eq_ald (e := (.iaload, 1, 0, 0, 0)) (by with_unfolding_all rfl) rfl (n := nS) (by with_unfolding_all rfl) h2).trans ?_
  show am_Wp _ 0 769 _ _ _ _ = _
  exact eq_call2 (e := (.invokevirtual 93, 3, 0, 257, 234)) (as := [.ref 205, .int (M 0 (x3 + 1).toNatClampNeg), .int (M 0 (x3 + 2).toNatClampNeg)]) (r := [.int s0]) (n := 3) (m := 5) (by with_unfolding_all rfl) rfl (by decide) (by with_unfolding_all rfl) (by decide) (by with_unfolding_all rfl) ⟨fun _ => am_rec_ok (c := 14) (by with_unfolding_all rfl) (by decide +kernel), fun z => by simp at z⟩
set_option maxRecDepth 20000 in
theorem b_0_772 {d nS : Nat} {x3 s0 s1 : Int32} {M : am_M} {Q : Option Value → am_H → Prop} : am_Wp d 0 772 [.ref 0, .ref 16, .ref 205, .int x3] [.int s1, .int s0] (hp nS M) Q = if s0 = s1 then am_Wp d 0 1410 [.ref 0, .ref 16, .ref 205, .int x3] [] (hp nS M) Q else am_Wp d 0 775 [.ref 0, .ref 16, .ref 205, .int x3] [] (hp nS M) Q := by
  exact eq_cmp_eq (by with_unfolding_all rfl)
set_option maxRecDepth 20000 in
theorem b_0_775 {d nS : Nat} {x3 : Int32} {M : am_M} {Q : Option Value → am_H → Prop} : am_Wp d 0 775 [.ref 0, .ref 16, .ref 205, .int x3] [] (hp nS M) Q = Q (some (.int 0)) (hp nS M) := by
  refine (eq_step (e := (.iconst 0, 1, 0, 0, 0)) (q := (776, [.ref 0, .ref 16, .ref 205, .int x3], [.int 0], hp nS M)) (am_cF_to (by with_unfolding_all rfl)) rfl (by with_unfolding_all rfl)).trans ?_
  show am_Wp _ 0 776 _ _ _ _ = _
  exact eq_retI2 (e := (.ireturn, 1, 0, 0, 0)) (t := .boolean) (by with_unfolding_all rfl) rfl (by with_unfolding_all rfl) rfl
set_option maxRecDepth 20000 in
theorem b_0_777 {d nS : Nat} {x3 : Int32} {M : am_M} {Q : Option Value → am_H → Prop} (h1 : vp_in (x3 + 1) nS) (h2 : vp_in (x3 + 2) nS) (h3 : vp_in (x3 + 3) nS) : am_Wp (d + 1) 0 777 [.ref 0, .ref 16, .ref 205, .int x3] [] (hp nS M) Q = am_Wp d 146 0 [.ref 16, .int (M 0 (x3 + 1).toNatClampNeg), .int (M 0 (x3 + 2).toNatClampNeg), .int (M 0 (x3 + 3).toNatClampNeg)] [] (hp nS M) (fun v h1 => am_Wp (d + 1) 0 796 [.ref 0, .ref 16, .ref 205, .int x3] (am_ans v []) h1 Q) := by
  refine (eq_step (e := (.aload_n 1, 1, 0, 0, 0)) (q := (778, [.ref 0, .ref 16, .ref 205, .int x3], [.ref 16], hp nS M)) (am_cF_to (by with_unfolding_all rfl)) rfl (by with_unfolding_all rfl)).trans ?_
  show am_Wp _ 0 778 _ _ _ _ = _
  refine (eq_step (e := (.aload_n 0, 1, 0, 0, 0)) (q := (779, [.ref 0, .ref 16, .ref 205, .int x3], [.ref 0, .ref 16], hp nS M)) (am_cF_to (by with_unfolding_all rfl)) rfl (by with_unfolding_all rfl)).trans ?_
  show am_Wp _ 0 779 _ _ _ _ = _
  refine (eq_step (e := (.iload_n 3, 1, 0, 0, 0)) (q := (780, [.ref 0, .ref 16, .ref 205, .int x3], [.int x3, .ref 0, .ref 16], hp nS M)) (am_cF_to (by with_unfolding_all rfl)) rfl (by with_unfolding_all rfl)).trans ?_
  show am_Wp _ 0 780 _ _ _ _ = _
  refine (eq_step (e := (.iconst 1, 1, 0, 0, 0)) (q := (781, [.ref 0, .ref 16, .ref 205, .int x3], [.int 1, .int x3, .ref 0, .ref 16], hp nS M)) (am_cF_to (by with_unfolding_all rfl)) rfl (by with_unfolding_all rfl)).trans ?_
  show am_Wp _ 0 781 _ _ _ _ = _
  refine (eq_step (e := (.iadd, 1, 0, 0, 0)) (q := (782, [.ref 0, .ref 16, .ref 205, .int x3], [.int (x3 + 1), .ref 0, .ref 16], hp nS M)) (am_cF_to (by with_unfolding_all rfl)) rfl (by with_unfolding_all rfl)).trans ?_
  show am_Wp _ 0 782 _ _ _ _ = _
  refine (eq_ald (e := (.iaload, 1, 0, 0, 0)) (by with_unfolding_all rfl) rfl (n := nS) (by with_unfolding_all rfl) h1).trans ?_
  show am_Wp _ 0 783 _ _ _ _ = _
  refine (eq_step (e := (.aload_n 0, 1, 0, 0, 0)) (q := (784, [.ref 0, .ref 16, .ref 205, .int x3], [.ref 0, .int (M 0 (x3 + 1).toNatClampNeg), .ref 16], hp nS M)) (am_cF_to (by with_unfolding_all rfl)) rfl (by with_unfolding_all rfl)).trans ?_
  show am_Wp _ 0 784 _ _ _ _ = _
  refine (eq_step (e := (.iload_n 3, 1, 0, 0, 0)) (q := (785, [.ref 0, .ref 16, .ref 205, .int x3], [.int x3, .ref 0, .int (M 0 (x3 + 1).toNatClampNeg), .ref 16], hp nS M)) (am_cF_to (by with_unfolding_all rfl)) rfl (by with_unfolding_all rfl)).trans ?_
  show am_Wp _ 0 785 _ _ _ _ = _
  refine (eq_step (e := (.iconst 2, 1, 0, 0, 0)) (q := (786, [.ref 0, .ref 16, .ref 205, .int x3], [.int 2, .int x3, .ref 0, .int (M 0 (x3 + 1).toNatClampNeg), .ref 16], hp nS M)) (am_cF_to (by with_unfolding_all rfl)) rfl (by with_unfolding_all rfl)).trans ?_
  show am_Wp _ 0 786 _ _ _ _ = _
  refine (eq_step (e := (.iadd, 1, 0, 0, 0)) (q := (787, [.ref 0, .ref 16, .ref 205, .int x3], [.int (x3 + 2), .ref 0, .int (M 0 (x3 + 1).toNatClampNeg), .ref 16], hp nS M)) (am_cF_to (by with_unfolding_all rfl)) rfl (by with_unfolding_all rfl)).trans ?_
  show am_Wp _ 0 787 _ _ _ _ = _
  refine (eq_ald (e := (.iaload, 1, 0, 0, 0)) (by with_unfolding_all rfl) rfl (n := nS) (by with_unfolding_all rfl) h2).trans ?_
  show am_Wp _ 0 788 _ _ _ _ = _
  refine (eq_step (e := (.aload_n 0, 1, 0, 0, 0)) (q := (789, [.ref 0, .ref 16, .ref 205, .int x3], [.ref 0, .int (M 0 (x3 + 2).toNatClampNeg), .int (M 0 (x3 + 1).toNatClampNeg), .ref 16], hp nS M)) (am_cF_to (by with_unfolding_all rfl)) rfl (by with_unfolding_all rfl)).trans ?_
  show am_Wp _ 0 789 _ _ _ _ = _
  refine (eq_step (e := (.iload_n 3, 1, 0, 0, 0)) (q := (790, [.ref 0, .ref 16, .ref 205, .int x3], [.int x3, .ref 0, .int (M 0 (x3 + 2).toNatClampNeg), .int (M 0 (x3 + 1).toNatClampNeg), .ref 16], hp nS M)) (am_cF_to (by with_unfolding_all rfl)) rfl (by with_unfolding_all rfl)).trans ?_
  show am_Wp _ 0 790 _ _ _ _ = _
  refine (eq_step (e := (.iconst 3, 1, 0, 0, 0)) (q := (791, [.ref 0, .ref 16, .ref 205, .int x3], [.int 3, .int x3, .ref 0, .int (M 0 (x3 + 2).toNatClampNeg), .int (M 0 (x3 + 1).toNatClampNeg), .ref 16], hp nS M)) (am_cF_to (by with_unfolding_all rfl)) rfl (by with_unfolding_all rfl)).trans ?_
  show am_Wp _ 0 791 _ _ _ _ = _
  refine (eq_step (e := (.iadd, 1, 0, 0, 0)) (q := (792, [.ref 0, .ref 16, .ref 205, .int x3], [.int (x3 + 3), .ref 0, .int (M 0 (x3 + 2).toNatClampNeg), .int (M 0 (x3 + 1).toNatClampNeg), .ref 16], hp nS M)) (am_cF_to (by with_unfolding_all rfl)) rfl (by with_unfolding_all rfl)).trans ?_
  show am_Wp _ 0 792 _ _ _ _ = _
  refine (eq_ald (e := (.iaload, 1, 0, 0, 0)) (by with_unfolding_all rfl) rfl (n := nS) (by with_unfolding_all rfl) h3).trans ?_
  show am_Wp _ 0 793 _ _ _ _ = _
  exact eq_call2 (e := (.invokevirtual 94, 3, 0, 146, 235)) (as := [.ref 16, .int (M 0 (x3 + 1).toNatClampNeg), .int (M 0 (x3 + 2).toNatClampNeg), .int (M 0 (x3 + 3).toNatClampNeg)]) (r := []) (n := 4) (m := 4) (by with_unfolding_all rfl) rfl (by decide) (by with_unfolding_all rfl) (by decide) (by with_unfolding_all rfl) ⟨fun _ => am_rec_ok (c := 13) (by with_unfolding_all rfl) (by decide +kernel), fun z => by simp at z⟩
set_option maxRecDepth 20000 in
theorem b_0_796 {d nS : Nat} {x3 s0 : Int32} {M : am_M} {Q : Option Value → am_H → Prop} (h1 : vp_in (x3 + 1) nS) (h2 : vp_in (x3 + 2) nS) (h3 : vp_in (x3 + 3) nS) : am_Wp (d + 1) 0 796 [.ref 0, .ref 16, .ref 205, .int x3] [.int s0] (hp nS M) Q = am_Wp d 264 0 [.ref 205, .int (M 0 (x3 + 1).toNatClampNeg), .int (M 0 (x3 + 2).toNatClampNeg), .int (M 0 (x3 + 3).toNatClampNeg)] [] (hp nS M) (fun v h1 => am_Wp (d + 1) 0 815 [.ref 0, .ref 16, .ref 205, .int x3] (am_ans v [.int s0]) h1 Q) := by
  refine (eq_step (e := (.aload_n 2, 1, 0, 0, 0)) (q := (797, [.ref 0, .ref 16, .ref 205, .int x3], [.ref 205, .int s0], hp nS M)) (am_cF_to (by with_unfolding_all rfl)) rfl (by with_unfolding_all rfl)).trans ?_
  show am_Wp _ 0 797 _ _ _ _ = _
  refine (eq_step (e := (.aload_n 0, 1, 0, 0, 0)) (q := (798, [.ref 0, .ref 16, .ref 205, .int x3], [.ref 0, .ref 205, .int s0], hp nS M)) (am_cF_to (by with_unfolding_all rfl)) rfl (by with_unfolding_all rfl)).trans ?_
  show am_Wp _ 0 798 _ _ _ _ = _
  refine (eq_step (e := (.iload_n 3, 1, 0, 0, 0)) (q := (799, [.ref 0, .ref 16, .ref 205, .int x3], [.int x3, .ref 0, .ref 205, .int s0], hp nS M)) (am_cF_to (by with_unfolding_all rfl)) rfl (by with_unfolding_all rfl)).trans ?_
  show am_Wp _ 0 799 _ _ _ _ = _
  refine (eq_step (e := (.iconst 1, 1, 0, 0, 0)) (q := (800, [.ref 0, .ref 16, .ref 205, .int x3], [.int 1, .int x3, .ref 0, .ref 205, .int s0], hp nS M)) (am_cF_to (by with_unfolding_all rfl)) rfl (by with_unfolding_all rfl)).trans ?_
  show am_Wp _ 0 800 _ _ _ _ = _
  refine (eq_step (e := (.iadd, 1, 0, 0, 0)) (q := (801, [.ref 0, .ref 16, .ref 205, .int x3], [.int (x3 + 1), .ref 0, .ref 205, .int s0], hp nS M)) (am_cF_to (by with_unfolding_all rfl)) rfl (by with_unfolding_all rfl)).trans ?_
  show am_Wp _ 0 801 _ _ _ _ = _
  refine (eq_ald (e := (.iaload, 1, 0, 0, 0)) (by with_unfolding_all rfl) rfl (n := nS) (by with_unfolding_all rfl) h1).trans ?_
  show am_Wp _ 0 802 _ _ _ _ = _
  refine (eq_step (e := (.aload_n 0, 1, 0, 0, 0)) (q := (803, [.ref 0, .ref 16, .ref 205, .int x3], [.ref 0, .int (M 0 (x3 + 1).toNatClampNeg), .ref 205, .int s0], hp nS M)) (am_cF_to (by with_unfolding_all rfl)) rfl (by with_unfolding_all rfl)).trans ?_
  show am_Wp _ 0 803 _ _ _ _ = _
  refine (eq_step (e := (.iload_n 3, 1, 0, 0, 0)) (q := (804, [.ref 0, .ref 16, .ref 205, .int x3], [.int x3, .ref 0, .int (M 0 (x3 + 1).toNatClampNeg), .ref 205, .int s0], hp nS M)) (am_cF_to (by with_unfolding_all rfl)) rfl (by with_unfolding_all rfl)).trans ?_
  show am_Wp _ 0 804 _ _ _ _ = _
  refine (eq_step (e := (.iconst 2, 1, 0, 0, 0)) (q := (805, [.ref 0, .ref 16, .ref 205, .int x3], [.int 2, .int x3, .ref 0, .int (M 0 (x3 + 1).toNatClampNeg), .ref 205, .int s0], hp nS M)) (am_cF_to (by with_unfolding_all rfl)) rfl (by with_unfolding_all rfl)).trans ?_
  show am_Wp _ 0 805 _ _ _ _ = _
  refine (eq_step (e := (.iadd, 1, 0, 0, 0)) (q := (806, [.ref 0, .ref 16, .ref 205, .int x3], [.int (x3 + 2), .ref 0, .int (M 0 (x3 + 1).toNatClampNeg), .ref 205, .int s0], hp nS M)) (am_cF_to (by with_unfolding_all rfl)) rfl (by with_unfolding_all rfl)).trans ?_
  show am_Wp _ 0 806 _ _ _ _ = _
  refine (eq_ald (e := (.iaload, 1, 0, 0, 0)) (by with_unfolding_all rfl) rfl (n := nS) (by with_unfolding_all rfl) h2).trans ?_
  show am_Wp _ 0 807 _ _ _ _ = _
  refine (eq_step (e := (.aload_n 0, 1, 0, 0, 0)) (q := (808, [.ref 0, .ref 16, .ref 205, .int x3], [.ref 0, .int (M 0 (x3 + 2).toNatClampNeg), .int (M 0 (x3 + 1).toNatClampNeg), .ref 205, .int s0], hp nS M)) (am_cF_to (by with_unfolding_all rfl)) rfl (by with_unfolding_all rfl)).trans ?_
  show am_Wp _ 0 808 _ _ _ _ = _
  refine (eq_step (e := (.iload_n 3, 1, 0, 0, 0)) (q := (809, [.ref 0, .ref 16, .ref 205, .int x3], [.int x3, .ref 0, .int (M 0 (x3 + 2).toNatClampNeg), .int (M 0 (x3 + 1).toNatClampNeg), .ref 205, .int s0], hp nS M)) (am_cF_to (by with_unfolding_all rfl)) rfl (by with_unfolding_all rfl)).trans ?_
  show am_Wp _ 0 809 _ _ _ _ = _
  refine (eq_step (e := (.iconst 3, 1, 0, 0, 0)) (q := (810, [.ref 0, .ref 16, .ref 205, .int x3], [.int 3, .int x3, .ref 0, .int (M 0 (x3 + 2).toNatClampNeg), .int (M 0 (x3 + 1).toNatClampNeg), .ref 205, .int s0], hp nS M)) (am_cF_to (by with_unfolding_all rfl)) rfl (by with_unfolding_all rfl)).trans ?_
  show am_Wp _ 0 810 _ _ _ _ = _
  refine (eq_step (e := (.iadd, 1, 0, 0, 0)) (q := (811, [.ref 0, .ref 16, .ref 205, .int x3], [.int (x3 + 3), .ref 0, .int (M 0 (x3 + 2).toNatClampNeg), .int (M 0 (x3 + 1).toNatClampNeg), .ref 205, .int s0], hp nS M)) (am_cF_to (by with_unfolding_all rfl)) rfl (by with_unfolding_all rfl)).trans ?_
  show am_Wp _ 0 811 _ _ _ _ = _
  refine (eq_ald (e := (.iaload, 1, 0, 0, 0)) (by with_unfolding_all rfl) rfl (n := nS) (by with_unfolding_all rfl) h3).trans ?_
  show am_Wp _ 0 812 _ _ _ _ = _
  exact eq_call2 (e := (.invokevirtual 97, 3, 0, 264, 236)) (as := [.ref 205, .int (M 0 (x3 + 1).toNatClampNeg), .int (M 0 (x3 + 2).toNatClampNeg), .int (M 0 (x3 + 3).toNatClampNeg)]) (r := [.int s0]) (n := 4) (m := 4) (by with_unfolding_all rfl) rfl (by decide) (by with_unfolding_all rfl) (by decide) (by with_unfolding_all rfl) ⟨fun _ => am_rec_ok (c := 14) (by with_unfolding_all rfl) (by decide +kernel), fun z => by simp at z⟩
set_option maxRecDepth 20000 in
theorem b_0_815 {d nS : Nat} {x3 s0 s1 : Int32} {M : am_M} {Q : Option Value → am_H → Prop} : am_Wp d 0 815 [.ref 0, .ref 16, .ref 205, .int x3] [.int s1, .int s0] (hp nS M) Q = if s0 = s1 then am_Wp d 0 1410 [.ref 0, .ref 16, .ref 205, .int x3] [] (hp nS M) Q else am_Wp d 0 818 [.ref 0, .ref 16, .ref 205, .int x3] [] (hp nS M) Q := by
  exact eq_cmp_eq (by with_unfolding_all rfl)
set_option maxRecDepth 20000 in
theorem b_0_818 {d nS : Nat} {x3 : Int32} {M : am_M} {Q : Option Value → am_H → Prop} : am_Wp d 0 818 [.ref 0, .ref 16, .ref 205, .int x3] [] (hp nS M) Q = Q (some (.int 0)) (hp nS M) := by
  refine (eq_step (e := (.iconst 0, 1, 0, 0, 0)) (q := (819, [.ref 0, .ref 16, .ref 205, .int x3], [.int 0], hp nS M)) (am_cF_to (by with_unfolding_all rfl)) rfl (by with_unfolding_all rfl)).trans ?_
  show am_Wp _ 0 819 _ _ _ _ = _
  exact eq_retI2 (e := (.ireturn, 1, 0, 0, 0)) (t := .boolean) (by with_unfolding_all rfl) rfl (by with_unfolding_all rfl) rfl
set_option maxRecDepth 20000 in
theorem b_0_820 {d nS : Nat} {x3 : Int32} {M : am_M} {Q : Option Value → am_H → Prop} (h1 : vp_in (x3 + 1) nS) (h2 : vp_in (x3 + 2) nS) : am_Wp (d + 1) 0 820 [.ref 0, .ref 16, .ref 205, .int x3] [] (hp nS M) Q = am_Wp d 147 0 [.ref 16, .int (M 0 (x3 + 1).toNatClampNeg), .int (M 0 (x3 + 2).toNatClampNeg)] [] (hp nS M) (fun v h1 => am_Wp (d + 1) 0 834 [.ref 0, .ref 16, .ref 205, .int x3] (am_ans v []) h1 Q) := by
  refine (eq_step (e := (.aload_n 1, 1, 0, 0, 0)) (q := (821, [.ref 0, .ref 16, .ref 205, .int x3], [.ref 16], hp nS M)) (am_cF_to (by with_unfolding_all rfl)) rfl (by with_unfolding_all rfl)).trans ?_
  show am_Wp _ 0 821 _ _ _ _ = _
  refine (eq_step (e := (.aload_n 0, 1, 0, 0, 0)) (q := (822, [.ref 0, .ref 16, .ref 205, .int x3], [.ref 0, .ref 16], hp nS M)) (am_cF_to (by with_unfolding_all rfl)) rfl (by with_unfolding_all rfl)).trans ?_
  show am_Wp _ 0 822 _ _ _ _ = _
  refine (eq_step (e := (.iload_n 3, 1, 0, 0, 0)) (q := (823, [.ref 0, .ref 16, .ref 205, .int x3], [.int x3, .ref 0, .ref 16], hp nS M)) (am_cF_to (by with_unfolding_all rfl)) rfl (by with_unfolding_all rfl)).trans ?_
  show am_Wp _ 0 823 _ _ _ _ = _
  refine (eq_step (e := (.iconst 1, 1, 0, 0, 0)) (q := (824, [.ref 0, .ref 16, .ref 205, .int x3], [.int 1, .int x3, .ref 0, .ref 16], hp nS M)) (am_cF_to (by with_unfolding_all rfl)) rfl (by with_unfolding_all rfl)).trans ?_
  show am_Wp _ 0 824 _ _ _ _ = _
  refine (eq_step (e := (.iadd, 1, 0, 0, 0)) (q := (825, [.ref 0, .ref 16, .ref 205, .int x3], [.int (x3 + 1), .ref 0, .ref 16], hp nS M)) (am_cF_to (by with_unfolding_all rfl)) rfl (by with_unfolding_all rfl)).trans ?_
  show am_Wp _ 0 825 _ _ _ _ = _
  refine (eq_ald (e := (.iaload, 1, 0, 0, 0)) (by with_unfolding_all rfl) rfl (n := nS) (by with_unfolding_all rfl) h1).trans ?_
  show am_Wp _ 0 826 _ _ _ _ = _
  refine (eq_step (e := (.aload_n 0, 1, 0, 0, 0)) (q := (827, [.ref 0, .ref 16, .ref 205, .int x3], [.ref 0, .int (M 0 (x3 + 1).toNatClampNeg), .ref 16], hp nS M)) (am_cF_to (by with_unfolding_all rfl)) rfl (by with_unfolding_all rfl)).trans ?_
  show am_Wp _ 0 827 _ _ _ _ = _
  refine (eq_step (e := (.iload_n 3, 1, 0, 0, 0)) (q := (828, [.ref 0, .ref 16, .ref 205, .int x3], [.int x3, .ref 0, .int (M 0 (x3 + 1).toNatClampNeg), .ref 16], hp nS M)) (am_cF_to (by with_unfolding_all rfl)) rfl (by with_unfolding_all rfl)).trans ?_
  show am_Wp _ 0 828 _ _ _ _ = _
  refine (eq_step (e := (.iconst 2, 1, 0, 0, 0)) (q := (829, [.ref 0, .ref 16, .ref 205, .int x3], [.int 2, .int x3, .ref 0, .int (M 0 (x3 + 1).toNatClampNeg), .ref 16], hp nS M)) (am_cF_to (by with_unfolding_all rfl)) rfl (by with_unfolding_all rfl)).trans ?_
  show am_Wp _ 0 829 _ _ _ _ = _
  refine (eq_step (e := (.iadd, 1, 0, 0, 0)) (q := (830, [.ref 0, .ref 16, .ref 205, .int x3], [.int (x3 + 2), .ref 0, .int (M 0 (x3 + 1).toNatClampNeg), .ref 16], hp nS M)) (am_cF_to (by with_unfolding_all rfl)) rfl (by with_unfolding_all rfl)).trans ?_
  show am_Wp _ 0 830 _ _ _ _ = _
  refine (eq_ald (e := (.iaload, 1, 0, 0, 0)) (by with_unfolding_all rfl) rfl (n := nS) (by with_unfolding_all rfl) h2).trans ?_
  show am_Wp _ 0 831 _ _ _ _ = _
  exact eq_call2 (e := (.invokevirtual 98, 3, 0, 147, 237)) (as := [.ref 16, .int (M 0 (x3 + 1).toNatClampNeg), .int (M 0 (x3 + 2).toNatClampNeg)]) (r := []) (n := 3) (m := 3) (by with_unfolding_all rfl) rfl (by decide) (by with_unfolding_all rfl) (by decide) (by with_unfolding_all rfl) ⟨fun _ => am_rec_ok (c := 13) (by with_unfolding_all rfl) (by decide +kernel), fun z => by simp at z⟩
set_option maxRecDepth 20000 in
theorem b_0_834 {d nS : Nat} {x3 s0 : Int32} {M : am_M} {Q : Option Value → am_H → Prop} (h1 : vp_in (x3 + 1) nS) (h2 : vp_in (x3 + 2) nS) : am_Wp (d + 1) 0 834 [.ref 0, .ref 16, .ref 205, .int x3] [.int s0] (hp nS M) Q = am_Wp d 265 0 [.ref 205, .int (M 0 (x3 + 1).toNatClampNeg), .int (M 0 (x3 + 2).toNatClampNeg), .retAddr 0, .retAddr 0, .retAddr 0, .retAddr 0] [] (hp nS M) (fun v h1 => am_Wp (d + 1) 0 848 [.ref 0, .ref 16, .ref 205, .int x3] (am_ans v [.int s0]) h1 Q) := by
  refine (eq_step (e := (.aload_n 2, 1, 0, 0, 0)) (q := (835, [.ref 0, .ref 16, .ref 205, .int x3], [.ref 205, .int s0], hp nS M)) (am_cF_to (by with_unfolding_all rfl)) rfl (by with_unfolding_all rfl)).trans ?_
  show am_Wp _ 0 835 _ _ _ _ = _
  refine (eq_step (e := (.aload_n 0, 1, 0, 0, 0)) (q := (836, [.ref 0, .ref 16, .ref 205, .int x3], [.ref 0, .ref 205, .int s0], hp nS M)) (am_cF_to (by with_unfolding_all rfl)) rfl (by with_unfolding_all rfl)).trans ?_
  show am_Wp _ 0 836 _ _ _ _ = _
  refine (eq_step (e := (.iload_n 3, 1, 0, 0, 0)) (q := (837, [.ref 0, .ref 16, .ref 205, .int x3], [.int x3, .ref 0, .ref 205, .int s0], hp nS M)) (am_cF_to (by with_unfolding_all rfl)) rfl (by with_unfolding_all rfl)).trans ?_
  show am_Wp _ 0 837 _ _ _ _ = _
  refine (eq_step (e := (.iconst 1, 1, 0, 0, 0)) (q := (838, [.ref 0, .ref 16, .ref 205, .int x3], [.int 1, .int x3, .ref 0, .ref 205, .int s0], hp nS M)) (am_cF_to (by with_unfolding_all rfl)) rfl (by with_unfolding_all rfl)).trans ?_
  show am_Wp _ 0 838 _ _ _ _ = _
  refine (eq_step (e := (.iadd, 1, 0, 0, 0)) (q := (839, [.ref 0, .ref 16, .ref 205, .int x3], [.int (x3 + 1), .ref 0, .ref 205, .int s0], hp nS M)) (am_cF_to (by with_unfolding_all rfl)) rfl (by with_unfolding_all rfl)).trans ?_
  show am_Wp _ 0 839 _ _ _ _ = _
  refine (eq_ald (e := (.iaload, 1, 0, 0, 0)) (by with_unfolding_all rfl) rfl (n := nS) (by with_unfolding_all rfl) h1).trans ?_
  show am_Wp _ 0 840 _ _ _ _ = _
  refine (eq_step (e := (.aload_n 0, 1, 0, 0, 0)) (q := (841, [.ref 0, .ref 16, .ref 205, .int x3], [.ref 0, .int (M 0 (x3 + 1).toNatClampNeg), .ref 205, .int s0], hp nS M)) (am_cF_to (by with_unfolding_all rfl)) rfl (by with_unfolding_all rfl)).trans ?_
  show am_Wp _ 0 841 _ _ _ _ = _
  refine (eq_step (e := (.iload_n 3, 1, 0, 0, 0)) (q := (842, [.ref 0, .ref 16, .ref 205, .int x3], [.int x3, .ref 0, .int (M 0 (x3 + 1).toNatClampNeg), .ref 205, .int s0], hp nS M)) (am_cF_to (by with_unfolding_all rfl)) rfl (by with_unfolding_all rfl)).trans ?_
  show am_Wp _ 0 842 _ _ _ _ = _
  refine (eq_step (e := (.iconst 2, 1, 0, 0, 0)) (q := (843, [.ref 0, .ref 16, .ref 205, .int x3], [.int 2, .int x3, .ref 0, .int (M 0 (x3 + 1).toNatClampNeg), .ref 205, .int s0], hp nS M)) (am_cF_to (by with_unfolding_all rfl)) rfl (by with_unfolding_all rfl)).trans ?_
  show am_Wp _ 0 843 _ _ _ _ = _
  refine (eq_step (e := (.iadd, 1, 0, 0, 0)) (q := (844, [.ref 0, .ref 16, .ref 205, .int x3], [.int (x3 + 2), .ref 0, .int (M 0 (x3 + 1).toNatClampNeg), .ref 205, .int s0], hp nS M)) (am_cF_to (by with_unfolding_all rfl)) rfl (by with_unfolding_all rfl)).trans ?_
  show am_Wp _ 0 844 _ _ _ _ = _
  refine (eq_ald (e := (.iaload, 1, 0, 0, 0)) (by with_unfolding_all rfl) rfl (n := nS) (by with_unfolding_all rfl) h2).trans ?_
  show am_Wp _ 0 845 _ _ _ _ = _
  exact eq_call2 (e := (.invokevirtual 101, 3, 0, 265, 238)) (as := [.ref 205, .int (M 0 (x3 + 1).toNatClampNeg), .int (M 0 (x3 + 2).toNatClampNeg)]) (r := [.int s0]) (n := 3) (m := 7) (by with_unfolding_all rfl) rfl (by decide) (by with_unfolding_all rfl) (by decide) (by with_unfolding_all rfl) ⟨fun _ => am_rec_ok (c := 14) (by with_unfolding_all rfl) (by decide +kernel), fun z => by simp at z⟩
set_option maxRecDepth 20000 in
theorem b_0_848 {d nS : Nat} {x3 s0 s1 : Int32} {M : am_M} {Q : Option Value → am_H → Prop} : am_Wp d 0 848 [.ref 0, .ref 16, .ref 205, .int x3] [.int s1, .int s0] (hp nS M) Q = if s0 = s1 then am_Wp d 0 1410 [.ref 0, .ref 16, .ref 205, .int x3] [] (hp nS M) Q else am_Wp d 0 851 [.ref 0, .ref 16, .ref 205, .int x3] [] (hp nS M) Q := by
  exact eq_cmp_eq (by with_unfolding_all rfl)
set_option maxRecDepth 20000 in
theorem b_0_851 {d nS : Nat} {x3 : Int32} {M : am_M} {Q : Option Value → am_H → Prop} : am_Wp d 0 851 [.ref 0, .ref 16, .ref 205, .int x3] [] (hp nS M) Q = Q (some (.int 0)) (hp nS M) := by
  refine (eq_step (e := (.iconst 0, 1, 0, 0, 0)) (q := (852, [.ref 0, .ref 16, .ref 205, .int x3], [.int 0], hp nS M)) (am_cF_to (by with_unfolding_all rfl)) rfl (by with_unfolding_all rfl)).trans ?_
  show am_Wp _ 0 852 _ _ _ _ = _
  exact eq_retI2 (e := (.ireturn, 1, 0, 0, 0)) (t := .boolean) (by with_unfolding_all rfl) rfl (by with_unfolding_all rfl) rfl
set_option maxRecDepth 20000 in
theorem b_0_853 {d nS : Nat} {x3 : Int32} {M : am_M} {Q : Option Value → am_H → Prop} (h1 : vp_in (x3 + 1) nS) (h2 : vp_in (x3 + 2) nS) (h3 : vp_in (x3 + 3) nS) : am_Wp (d + 1) 0 853 [.ref 0, .ref 16, .ref 205, .int x3] [] (hp nS M) Q = am_Wp d 149 0 [.ref 16, .int (M 0 (x3 + 1).toNatClampNeg), .int (M 0 (x3 + 2).toNatClampNeg), .int (M 0 (x3 + 3).toNatClampNeg)] [] (hp nS M) (fun v h1 => am_Wp (d + 1) 0 872 [.ref 0, .ref 16, .ref 205, .int x3] (am_ans v []) h1 Q) := by
  refine (eq_step (e := (.aload_n 1, 1, 0, 0, 0)) (q := (854, [.ref 0, .ref 16, .ref 205, .int x3], [.ref 16], hp nS M)) (am_cF_to (by with_unfolding_all rfl)) rfl (by with_unfolding_all rfl)).trans ?_
  show am_Wp _ 0 854 _ _ _ _ = _
  refine (eq_step (e := (.aload_n 0, 1, 0, 0, 0)) (q := (855, [.ref 0, .ref 16, .ref 205, .int x3], [.ref 0, .ref 16], hp nS M)) (am_cF_to (by with_unfolding_all rfl)) rfl (by with_unfolding_all rfl)).trans ?_
  show am_Wp _ 0 855 _ _ _ _ = _
  refine (eq_step (e := (.iload_n 3, 1, 0, 0, 0)) (q := (856, [.ref 0, .ref 16, .ref 205, .int x3], [.int x3, .ref 0, .ref 16], hp nS M)) (am_cF_to (by with_unfolding_all rfl)) rfl (by with_unfolding_all rfl)).trans ?_
  show am_Wp _ 0 856 _ _ _ _ = _
  refine (eq_step (e := (.iconst 1, 1, 0, 0, 0)) (q := (857, [.ref 0, .ref 16, .ref 205, .int x3], [.int 1, .int x3, .ref 0, .ref 16], hp nS M)) (am_cF_to (by with_unfolding_all rfl)) rfl (by with_unfolding_all rfl)).trans ?_
  show am_Wp _ 0 857 _ _ _ _ = _
  refine (eq_step (e := (.iadd, 1, 0, 0, 0)) (q := (858, [.ref 0, .ref 16, .ref 205, .int x3], [.int (x3 + 1), .ref 0, .ref 16], hp nS M)) (am_cF_to (by with_unfolding_all rfl)) rfl (by with_unfolding_all rfl)).trans ?_
  show am_Wp _ 0 858 _ _ _ _ = _
  refine (eq_ald (e := (.iaload, 1, 0, 0, 0)) (by with_unfolding_all rfl) rfl (n := nS) (by with_unfolding_all rfl) h1).trans ?_
  show am_Wp _ 0 859 _ _ _ _ = _
  refine (eq_step (e := (.aload_n 0, 1, 0, 0, 0)) (q := (860, [.ref 0, .ref 16, .ref 205, .int x3], [.ref 0, .int (M 0 (x3 + 1).toNatClampNeg), .ref 16], hp nS M)) (am_cF_to (by with_unfolding_all rfl)) rfl (by with_unfolding_all rfl)).trans ?_
  show am_Wp _ 0 860 _ _ _ _ = _
  refine (eq_step (e := (.iload_n 3, 1, 0, 0, 0)) (q := (861, [.ref 0, .ref 16, .ref 205, .int x3], [.int x3, .ref 0, .int (M 0 (x3 + 1).toNatClampNeg), .ref 16], hp nS M)) (am_cF_to (by with_unfolding_all rfl)) rfl (by with_unfolding_all rfl)).trans ?_
  show am_Wp _ 0 861 _ _ _ _ = _
  refine (eq_step (e := (.iconst 2, 1, 0, 0, 0)) (q := (862, [.ref 0, .ref 16, .ref 205, .int x3], [.int 2, .int x3, .ref 0, .int (M 0 (x3 + 1).toNatClampNeg), .ref 16], hp nS M)) (am_cF_to (by with_unfolding_all rfl)) rfl (by with_unfolding_all rfl)).trans ?_
  show am_Wp _ 0 862 _ _ _ _ = _
  refine (eq_step (e := (.iadd, 1, 0, 0, 0)) (q := (863, [.ref 0, .ref 16, .ref 205, .int x3], [.int (x3 + 2), .ref 0, .int (M 0 (x3 + 1).toNatClampNeg), .ref 16], hp nS M)) (am_cF_to (by with_unfolding_all rfl)) rfl (by with_unfolding_all rfl)).trans ?_
  show am_Wp _ 0 863 _ _ _ _ = _
  refine (eq_ald (e := (.iaload, 1, 0, 0, 0)) (by with_unfolding_all rfl) rfl (n := nS) (by with_unfolding_all rfl) h2).trans ?_
  show am_Wp _ 0 864 _ _ _ _ = _
  refine (eq_step (e := (.aload_n 0, 1, 0, 0, 0)) (q := (865, [.ref 0, .ref 16, .ref 205, .int x3], [.ref 0, .int (M 0 (x3 + 2).toNatClampNeg), .int (M 0 (x3 + 1).toNatClampNeg), .ref 16], hp nS M)) (am_cF_to (by with_unfolding_all rfl)) rfl (by with_unfolding_all rfl)).trans ?_
  show am_Wp _ 0 865 _ _ _ _ = _
  refine (eq_step (e := (.iload_n 3, 1, 0, 0, 0)) (q := (866, [.ref 0, .ref 16, .ref 205, .int x3], [.int x3, .ref 0, .int (M 0 (x3 + 2).toNatClampNeg), .int (M 0 (x3 + 1).toNatClampNeg), .ref 16], hp nS M)) (am_cF_to (by with_unfolding_all rfl)) rfl (by with_unfolding_all rfl)).trans ?_
  show am_Wp _ 0 866 _ _ _ _ = _
  refine (eq_step (e := (.iconst 3, 1, 0, 0, 0)) (q := (867, [.ref 0, .ref 16, .ref 205, .int x3], [.int 3, .int x3, .ref 0, .int (M 0 (x3 + 2).toNatClampNeg), .int (M 0 (x3 + 1).toNatClampNeg), .ref 16], hp nS M)) (am_cF_to (by with_unfolding_all rfl)) rfl (by with_unfolding_all rfl)).trans ?_
  show am_Wp _ 0 867 _ _ _ _ = _
  refine (eq_step (e := (.iadd, 1, 0, 0, 0)) (q := (868, [.ref 0, .ref 16, .ref 205, .int x3], [.int (x3 + 3), .ref 0, .int (M 0 (x3 + 2).toNatClampNeg), .int (M 0 (x3 + 1).toNatClampNeg), .ref 16], hp nS M)) (am_cF_to (by with_unfolding_all rfl)) rfl (by with_unfolding_all rfl)).trans ?_
  show am_Wp _ 0 868 _ _ _ _ = _
  refine (eq_ald (e := (.iaload, 1, 0, 0, 0)) (by with_unfolding_all rfl) rfl (n := nS) (by with_unfolding_all rfl) h3).trans ?_
  show am_Wp _ 0 869 _ _ _ _ = _
  exact eq_call2 (e := (.invokevirtual 102, 3, 0, 149, 239)) (as := [.ref 16, .int (M 0 (x3 + 1).toNatClampNeg), .int (M 0 (x3 + 2).toNatClampNeg), .int (M 0 (x3 + 3).toNatClampNeg)]) (r := []) (n := 4) (m := 4) (by with_unfolding_all rfl) rfl (by decide) (by with_unfolding_all rfl) (by decide) (by with_unfolding_all rfl) ⟨fun _ => am_rec_ok (c := 13) (by with_unfolding_all rfl) (by decide +kernel), fun z => by simp at z⟩
set_option maxRecDepth 20000 in
theorem b_0_872 {d nS : Nat} {x3 s0 : Int32} {M : am_M} {Q : Option Value → am_H → Prop} (h1 : vp_in (x3 + 1) nS) (h2 : vp_in (x3 + 2) nS) (h3 : vp_in (x3 + 3) nS) : am_Wp (d + 1) 0 872 [.ref 0, .ref 16, .ref 205, .int x3] [.int s0] (hp nS M) Q = am_Wp d 270 0 [.ref 205, .int (M 0 (x3 + 1).toNatClampNeg), .int (M 0 (x3 + 2).toNatClampNeg), .int (M 0 (x3 + 3).toNatClampNeg), .retAddr 0, .retAddr 0, .retAddr 0, .retAddr 0, .retAddr 0, .retAddr 0] [] (hp nS M) (fun v h1 => am_Wp (d + 1) 0 891 [.ref 0, .ref 16, .ref 205, .int x3] (am_ans v [.int s0]) h1 Q) := by
  refine (eq_step (e := (.aload_n 2, 1, 0, 0, 0)) (q := (873, [.ref 0, .ref 16, .ref 205, .int x3], [.ref 205, .int s0], hp nS M)) (am_cF_to (by with_unfolding_all rfl)) rfl (by with_unfolding_all rfl)).trans ?_
  show am_Wp _ 0 873 _ _ _ _ = _
  refine (eq_step (e := (.aload_n 0, 1, 0, 0, 0)) (q := (874, [.ref 0, .ref 16, .ref 205, .int x3], [.ref 0, .ref 205, .int s0], hp nS M)) (am_cF_to (by with_unfolding_all rfl)) rfl (by with_unfolding_all rfl)).trans ?_
  show am_Wp _ 0 874 _ _ _ _ = _
  refine (eq_step (e := (.iload_n 3, 1, 0, 0, 0)) (q := (875, [.ref 0, .ref 16, .ref 205, .int x3], [.int x3, .ref 0, .ref 205, .int s0], hp nS M)) (am_cF_to (by with_unfolding_all rfl)) rfl (by with_unfolding_all rfl)).trans ?_
  show am_Wp _ 0 875 _ _ _ _ = _
  refine (eq_step (e := (.iconst 1, 1, 0, 0, 0)) (q := (876, [.ref 0, .ref 16, .ref 205, .int x3], [.int 1, .int x3, .ref 0, .ref 205, .int s0], hp nS M)) (am_cF_to (by with_unfolding_all rfl)) rfl (by with_unfolding_all rfl)).trans ?_
  show am_Wp _ 0 876 _ _ _ _ = _
  refine (eq_step (e := (.iadd, 1, 0, 0, 0)) (q := (877, [.ref 0, .ref 16, .ref 205, .int x3], [.int (x3 + 1), .ref 0, .ref 205, .int s0], hp nS M)) (am_cF_to (by with_unfolding_all rfl)) rfl (by with_unfolding_all rfl)).trans ?_
  show am_Wp _ 0 877 _ _ _ _ = _
  refine (eq_ald (e := (.iaload, 1, 0, 0, 0)) (by with_unfolding_all rfl) rfl (n := nS) (by with_unfolding_all rfl) h1).trans ?_
  show am_Wp _ 0 878 _ _ _ _ = _
  refine (eq_step (e := (.aload_n 0, 1, 0, 0, 0)) (q := (879, [.ref 0, .ref 16, .ref 205, .int x3], [.ref 0, .int (M 0 (x3 + 1).toNatClampNeg), .ref 205, .int s0], hp nS M)) (am_cF_to (by with_unfolding_all rfl)) rfl (by with_unfolding_all rfl)).trans ?_
  show am_Wp _ 0 879 _ _ _ _ = _
  refine (eq_step (e := (.iload_n 3, 1, 0, 0, 0)) (q := (880, [.ref 0, .ref 16, .ref 205, .int x3], [.int x3, .ref 0, .int (M 0 (x3 + 1).toNatClampNeg), .ref 205, .int s0], hp nS M)) (am_cF_to (by with_unfolding_all rfl)) rfl (by with_unfolding_all rfl)).trans ?_
  show am_Wp _ 0 880 _ _ _ _ = _
  refine (eq_step (e := (.iconst 2, 1, 0, 0, 0)) (q := (881, [.ref 0, .ref 16, .ref 205, .int x3], [.int 2, .int x3, .ref 0, .int (M 0 (x3 + 1).toNatClampNeg), .ref 205, .int s0], hp nS M)) (am_cF_to (by with_unfolding_all rfl)) rfl (by with_unfolding_all rfl)).trans ?_
  show am_Wp _ 0 881 _ _ _ _ = _
  refine (eq_step (e := (.iadd, 1, 0, 0, 0)) (q := (882, [.ref 0, .ref 16, .ref 205, .int x3], [.int (x3 + 2), .ref 0, .int (M 0 (x3 + 1).toNatClampNeg), .ref 205, .int s0], hp nS M)) (am_cF_to (by with_unfolding_all rfl)) rfl (by with_unfolding_all rfl)).trans ?_
  show am_Wp _ 0 882 _ _ _ _ = _
  refine (eq_ald (e := (.iaload, 1, 0, 0, 0)) (by with_unfolding_all rfl) rfl (n := nS) (by with_unfolding_all rfl) h2).trans ?_
  show am_Wp _ 0 883 _ _ _ _ = _
  refine (eq_step (e := (.aload_n 0, 1, 0, 0, 0)) (q := (884, [.ref 0, .ref 16, .ref 205, .int x3], [.ref 0, .int (M 0 (x3 + 2).toNatClampNeg), .int (M 0 (x3 + 1).toNatClampNeg), .ref 205, .int s0], hp nS M)) (am_cF_to (by with_unfolding_all rfl)) rfl (by with_unfolding_all rfl)).trans ?_
  show am_Wp _ 0 884 _ _ _ _ = _
  refine (eq_step (e := (.iload_n 3, 1, 0, 0, 0)) (q := (885, [.ref 0, .ref 16, .ref 205, .int x3], [.int x3, .ref 0, .int (M 0 (x3 + 2).toNatClampNeg), .int (M 0 (x3 + 1).toNatClampNeg), .ref 205, .int s0], hp nS M)) (am_cF_to (by with_unfolding_all rfl)) rfl (by with_unfolding_all rfl)).trans ?_
  show am_Wp _ 0 885 _ _ _ _ = _
  refine (eq_step (e := (.iconst 3, 1, 0, 0, 0)) (q := (886, [.ref 0, .ref 16, .ref 205, .int x3], [.int 3, .int x3, .ref 0, .int (M 0 (x3 + 2).toNatClampNeg), .int (M 0 (x3 + 1).toNatClampNeg), .ref 205, .int s0], hp nS M)) (am_cF_to (by with_unfolding_all rfl)) rfl (by with_unfolding_all rfl)).trans ?_
  show am_Wp _ 0 886 _ _ _ _ = _
  refine (eq_step (e := (.iadd, 1, 0, 0, 0)) (q := (887, [.ref 0, .ref 16, .ref 205, .int x3], [.int (x3 + 3), .ref 0, .int (M 0 (x3 + 2).toNatClampNeg), .int (M 0 (x3 + 1).toNatClampNeg), .ref 205, .int s0], hp nS M)) (am_cF_to (by with_unfolding_all rfl)) rfl (by with_unfolding_all rfl)).trans ?_
  show am_Wp _ 0 887 _ _ _ _ = _
  refine (eq_ald (e := (.iaload, 1, 0, 0, 0)) (by with_unfolding_all rfl) rfl (n := nS) (by with_unfolding_all rfl) h3).trans ?_
  show am_Wp _ 0 888 _ _ _ _ = _
  exact eq_call2 (e := (.invokevirtual 106, 3, 0, 270, 240)) (as := [.ref 205, .int (M 0 (x3 + 1).toNatClampNeg), .int (M 0 (x3 + 2).toNatClampNeg), .int (M 0 (x3 + 3).toNatClampNeg)]) (r := [.int s0]) (n := 4) (m := 10) (by with_unfolding_all rfl) rfl (by decide) (by with_unfolding_all rfl) (by decide) (by with_unfolding_all rfl) ⟨fun _ => am_rec_ok (c := 14) (by with_unfolding_all rfl) (by decide +kernel), fun z => by simp at z⟩
set_option maxRecDepth 20000 in
theorem b_0_891 {d nS : Nat} {x3 s0 s1 : Int32} {M : am_M} {Q : Option Value → am_H → Prop} : am_Wp d 0 891 [.ref 0, .ref 16, .ref 205, .int x3] [.int s1, .int s0] (hp nS M) Q = if s0 = s1 then am_Wp d 0 1410 [.ref 0, .ref 16, .ref 205, .int x3] [] (hp nS M) Q else am_Wp d 0 894 [.ref 0, .ref 16, .ref 205, .int x3] [] (hp nS M) Q := by
  exact eq_cmp_eq (by with_unfolding_all rfl)
set_option maxRecDepth 20000 in
theorem b_0_894 {d nS : Nat} {x3 : Int32} {M : am_M} {Q : Option Value → am_H → Prop} : am_Wp d 0 894 [.ref 0, .ref 16, .ref 205, .int x3] [] (hp nS M) Q = Q (some (.int 0)) (hp nS M) := by
  refine (eq_step (e := (.iconst 0, 1, 0, 0, 0)) (q := (895, [.ref 0, .ref 16, .ref 205, .int x3], [.int 0], hp nS M)) (am_cF_to (by with_unfolding_all rfl)) rfl (by with_unfolding_all rfl)).trans ?_
  show am_Wp _ 0 895 _ _ _ _ = _
  exact eq_retI2 (e := (.ireturn, 1, 0, 0, 0)) (t := .boolean) (by with_unfolding_all rfl) rfl (by with_unfolding_all rfl) rfl
set_option maxRecDepth 20000 in
theorem b_0_896 {d nS : Nat} {x3 : Int32} {M : am_M} {Q : Option Value → am_H → Prop} (h1 : vp_in (x3 + 1) nS) (h2 : vp_in (x3 + 2) nS) (h3 : vp_in (x3 + 3) nS) : am_Wp (d + 1) 0 896 [.ref 0, .ref 16, .ref 205, .int x3] [] (hp nS M) Q = am_Wp d 150 0 [.ref 16, .int (M 0 (x3 + 1).toNatClampNeg), .int (M 0 (x3 + 2).toNatClampNeg), .int (M 0 (x3 + 3).toNatClampNeg), .retAddr 0] [] (hp nS M) (fun v h1 => am_Wp (d + 1) 0 915 [.ref 0, .ref 16, .ref 205, .int x3] (am_ans v []) h1 Q) := by
  refine (eq_step (e := (.aload_n 1, 1, 0, 0, 0)) (q := (897, [.ref 0, .ref 16, .ref 205, .int x3], [.ref 16], hp nS M)) (am_cF_to (by with_unfolding_all rfl)) rfl (by with_unfolding_all rfl)).trans ?_
  show am_Wp _ 0 897 _ _ _ _ = _
  refine (eq_step (e := (.aload_n 0, 1, 0, 0, 0)) (q := (898, [.ref 0, .ref 16, .ref 205, .int x3], [.ref 0, .ref 16], hp nS M)) (am_cF_to (by with_unfolding_all rfl)) rfl (by with_unfolding_all rfl)).trans ?_
  show am_Wp _ 0 898 _ _ _ _ = _
  refine (eq_step (e := (.iload_n 3, 1, 0, 0, 0)) (q := (899, [.ref 0, .ref 16, .ref 205, .int x3], [.int x3, .ref 0, .ref 16], hp nS M)) (am_cF_to (by with_unfolding_all rfl)) rfl (by with_unfolding_all rfl)).trans ?_
  show am_Wp _ 0 899 _ _ _ _ = _
  refine (eq_step (e := (.iconst 1, 1, 0, 0, 0)) (q := (900, [.ref 0, .ref 16, .ref 205, .int x3], [.int 1, .int x3, .ref 0, .ref 16], hp nS M)) (am_cF_to (by with_unfolding_all rfl)) rfl (by with_unfolding_all rfl)).trans ?_
  show am_Wp _ 0 900 _ _ _ _ = _
  refine (eq_step (e := (.iadd, 1, 0, 0, 0)) (q := (901, [.ref 0, .ref 16, .ref 205, .int x3], [.int (x3 + 1), .ref 0, .ref 16], hp nS M)) (am_cF_to (by with_unfolding_all rfl)) rfl (by with_unfolding_all rfl)).trans ?_
  show am_Wp _ 0 901 _ _ _ _ = _
  refine (eq_ald (e := (.iaload, 1, 0, 0, 0)) (by with_unfolding_all rfl) rfl (n := nS) (by with_unfolding_all rfl) h1).trans ?_
  show am_Wp _ 0 902 _ _ _ _ = _
  refine (eq_step (e := (.aload_n 0, 1, 0, 0, 0)) (q := (903, [.ref 0, .ref 16, .ref 205, .int x3], [.ref 0, .int (M 0 (x3 + 1).toNatClampNeg), .ref 16], hp nS M)) (am_cF_to (by with_unfolding_all rfl)) rfl (by with_unfolding_all rfl)).trans ?_
  show am_Wp _ 0 903 _ _ _ _ = _
  refine (eq_step (e := (.iload_n 3, 1, 0, 0, 0)) (q := (904, [.ref 0, .ref 16, .ref 205, .int x3], [.int x3, .ref 0, .int (M 0 (x3 + 1).toNatClampNeg), .ref 16], hp nS M)) (am_cF_to (by with_unfolding_all rfl)) rfl (by with_unfolding_all rfl)).trans ?_
  show am_Wp _ 0 904 _ _ _ _ = _
  refine (eq_step (e := (.iconst 2, 1, 0, 0, 0)) (q := (905, [.ref 0, .ref 16, .ref 205, .int x3], [.int 2, .int x3, .ref 0, .int (M 0 (x3 + 1).toNatClampNeg), .ref 16], hp nS M)) (am_cF_to (by with_unfolding_all rfl)) rfl (by with_unfolding_all rfl)).trans ?_
  show am_Wp _ 0 905 _ _ _ _ = _
  refine (eq_step (e := (.iadd, 1, 0, 0, 0)) (q := (906, [.ref 0, .ref 16, .ref 205, .int x3], [.int (x3 + 2), .ref 0, .int (M 0 (x3 + 1).toNatClampNeg), .ref 16], hp nS M)) (am_cF_to (by with_unfolding_all rfl)) rfl (by with_unfolding_all rfl)).trans ?_
  show am_Wp _ 0 906 _ _ _ _ = _
  refine (eq_ald (e := (.iaload, 1, 0, 0, 0)) (by with_unfolding_all rfl) rfl (n := nS) (by with_unfolding_all rfl) h2).trans ?_
  show am_Wp _ 0 907 _ _ _ _ = _
  refine (eq_step (e := (.aload_n 0, 1, 0, 0, 0)) (q := (908, [.ref 0, .ref 16, .ref 205, .int x3], [.ref 0, .int (M 0 (x3 + 2).toNatClampNeg), .int (M 0 (x3 + 1).toNatClampNeg), .ref 16], hp nS M)) (am_cF_to (by with_unfolding_all rfl)) rfl (by with_unfolding_all rfl)).trans ?_
  show am_Wp _ 0 908 _ _ _ _ = _
  refine (eq_step (e := (.iload_n 3, 1, 0, 0, 0)) (q := (909, [.ref 0, .ref 16, .ref 205, .int x3], [.int x3, .ref 0, .int (M 0 (x3 + 2).toNatClampNeg), .int (M 0 (x3 + 1).toNatClampNeg), .ref 16], hp nS M)) (am_cF_to (by with_unfolding_all rfl)) rfl (by with_unfolding_all rfl)).trans ?_
  show am_Wp _ 0 909 _ _ _ _ = _
  refine (eq_step (e := (.iconst 3, 1, 0, 0, 0)) (q := (910, [.ref 0, .ref 16, .ref 205, .int x3], [.int 3, .int x3, .ref 0, .int (M 0 (x3 + 2).toNatClampNeg), .int (M 0 (x3 + 1).toNatClampNeg), .ref 16], hp nS M)) (am_cF_to (by with_unfolding_all rfl)) rfl (by with_unfolding_all rfl)).trans ?_
  show am_Wp _ 0 910 _ _ _ _ = _
  refine (eq_step (e := (.iadd, 1, 0, 0, 0)) (q := (911, [.ref 0, .ref 16, .ref 205, .int x3], [.int (x3 + 3), .ref 0, .int (M 0 (x3 + 2).toNatClampNeg), .int (M 0 (x3 + 1).toNatClampNeg), .ref 16], hp nS M)) (am_cF_to (by with_unfolding_all rfl)) rfl (by with_unfolding_all rfl)).trans ?_
  show am_Wp _ 0 911 _ _ _ _ = _
  refine (eq_ald (e := (.iaload, 1, 0, 0, 0)) (by with_unfolding_all rfl) rfl (n := nS) (by with_unfolding_all rfl) h3).trans ?_
  show am_Wp _ 0 912 _ _ _ _ = _
  exact eq_call2 (e := (.invokevirtual 107, 3, 0, 150, 241)) (as := [.ref 16, .int (M 0 (x3 + 1).toNatClampNeg), .int (M 0 (x3 + 2).toNatClampNeg), .int (M 0 (x3 + 3).toNatClampNeg)]) (r := []) (n := 4) (m := 5) (by with_unfolding_all rfl) rfl (by decide) (by with_unfolding_all rfl) (by decide) (by with_unfolding_all rfl) ⟨fun _ => am_rec_ok (c := 13) (by with_unfolding_all rfl) (by decide +kernel), fun z => by simp at z⟩
set_option maxRecDepth 20000 in
theorem b_0_915 {d nS : Nat} {x3 s0 : Int32} {M : am_M} {Q : Option Value → am_H → Prop} (h1 : vp_in (x3 + 1) nS) (h2 : vp_in (x3 + 2) nS) (h3 : vp_in (x3 + 3) nS) : am_Wp (d + 1) 0 915 [.ref 0, .ref 16, .ref 205, .int x3] [.int s0] (hp nS M) Q = am_Wp d 271 0 [.ref 205, .int (M 0 (x3 + 1).toNatClampNeg), .int (M 0 (x3 + 2).toNatClampNeg), .int (M 0 (x3 + 3).toNatClampNeg), .retAddr 0] [] (hp nS M) (fun v h1 => am_Wp (d + 1) 0 934 [.ref 0, .ref 16, .ref 205, .int x3] (am_ans v [.int s0]) h1 Q) := by
  refine (eq_step (e := (.aload_n 2, 1, 0, 0, 0)) (q := (916, [.ref 0, .ref 16, .ref 205, .int x3], [.ref 205, .int s0], hp nS M)) (am_cF_to (by with_unfolding_all rfl)) rfl (by with_unfolding_all rfl)).trans ?_
  show am_Wp _ 0 916 _ _ _ _ = _
  refine (eq_step (e := (.aload_n 0, 1, 0, 0, 0)) (q := (917, [.ref 0, .ref 16, .ref 205, .int x3], [.ref 0, .ref 205, .int s0], hp nS M)) (am_cF_to (by with_unfolding_all rfl)) rfl (by with_unfolding_all rfl)).trans ?_
  show am_Wp _ 0 917 _ _ _ _ = _
  refine (eq_step (e := (.iload_n 3, 1, 0, 0, 0)) (q := (918, [.ref 0, .ref 16, .ref 205, .int x3], [.int x3, .ref 0, .ref 205, .int s0], hp nS M)) (am_cF_to (by with_unfolding_all rfl)) rfl (by with_unfolding_all rfl)).trans ?_
  show am_Wp _ 0 918 _ _ _ _ = _
  refine (eq_step (e := (.iconst 1, 1, 0, 0, 0)) (q := (919, [.ref 0, .ref 16, .ref 205, .int x3], [.int 1, .int x3, .ref 0, .ref 205, .int s0], hp nS M)) (am_cF_to (by with_unfolding_all rfl)) rfl (by with_unfolding_all rfl)).trans ?_
  show am_Wp _ 0 919 _ _ _ _ = _
  refine (eq_step (e := (.iadd, 1, 0, 0, 0)) (q := (920, [.ref 0, .ref 16, .ref 205, .int x3], [.int (x3 + 1), .ref 0, .ref 205, .int s0], hp nS M)) (am_cF_to (by with_unfolding_all rfl)) rfl (by with_unfolding_all rfl)).trans ?_
  show am_Wp _ 0 920 _ _ _ _ = _
  refine (eq_ald (e := (.iaload, 1, 0, 0, 0)) (by with_unfolding_all rfl) rfl (n := nS) (by with_unfolding_all rfl) h1).trans ?_
  show am_Wp _ 0 921 _ _ _ _ = _
  refine (eq_step (e := (.aload_n 0, 1, 0, 0, 0)) (q := (922, [.ref 0, .ref 16, .ref 205, .int x3], [.ref 0, .int (M 0 (x3 + 1).toNatClampNeg), .ref 205, .int s0], hp nS M)) (am_cF_to (by with_unfolding_all rfl)) rfl (by with_unfolding_all rfl)).trans ?_
  show am_Wp _ 0 922 _ _ _ _ = _
  refine (eq_step (e := (.iload_n 3, 1, 0, 0, 0)) (q := (923, [.ref 0, .ref 16, .ref 205, .int x3], [.int x3, .ref 0, .int (M 0 (x3 + 1).toNatClampNeg), .ref 205, .int s0], hp nS M)) (am_cF_to (by with_unfolding_all rfl)) rfl (by with_unfolding_all rfl)).trans ?_
  show am_Wp _ 0 923 _ _ _ _ = _
  refine (eq_step (e := (.iconst 2, 1, 0, 0, 0)) (q := (924, [.ref 0, .ref 16, .ref 205, .int x3], [.int 2, .int x3, .ref 0, .int (M 0 (x3 + 1).toNatClampNeg), .ref 205, .int s0], hp nS M)) (am_cF_to (by with_unfolding_all rfl)) rfl (by with_unfolding_all rfl)).trans ?_
  show am_Wp _ 0 924 _ _ _ _ = _
  refine (eq_step (e := (.iadd, 1, 0, 0, 0)) (q := (925, [.ref 0, .ref 16, .ref 205, .int x3], [.int (x3 + 2), .ref 0, .int (M 0 (x3 + 1).toNatClampNeg), .ref 205, .int s0], hp nS M)) (am_cF_to (by with_unfolding_all rfl)) rfl (by with_unfolding_all rfl)).trans ?_
  show am_Wp _ 0 925 _ _ _ _ = _
  refine (eq_ald (e := (.iaload, 1, 0, 0, 0)) (by with_unfolding_all rfl) rfl (n := nS) (by with_unfolding_all rfl) h2).trans ?_
  show am_Wp _ 0 926 _ _ _ _ = _
  refine (eq_step (e := (.aload_n 0, 1, 0, 0, 0)) (q := (927, [.ref 0, .ref 16, .ref 205, .int x3], [.ref 0, .int (M 0 (x3 + 2).toNatClampNeg), .int (M 0 (x3 + 1).toNatClampNeg), .ref 205, .int s0], hp nS M)) (am_cF_to (by with_unfolding_all rfl)) rfl (by with_unfolding_all rfl)).trans ?_
  show am_Wp _ 0 927 _ _ _ _ = _
  refine (eq_step (e := (.iload_n 3, 1, 0, 0, 0)) (q := (928, [.ref 0, .ref 16, .ref 205, .int x3], [.int x3, .ref 0, .int (M 0 (x3 + 2).toNatClampNeg), .int (M 0 (x3 + 1).toNatClampNeg), .ref 205, .int s0], hp nS M)) (am_cF_to (by with_unfolding_all rfl)) rfl (by with_unfolding_all rfl)).trans ?_
  show am_Wp _ 0 928 _ _ _ _ = _
  refine (eq_step (e := (.iconst 3, 1, 0, 0, 0)) (q := (929, [.ref 0, .ref 16, .ref 205, .int x3], [.int 3, .int x3, .ref 0, .int (M 0 (x3 + 2).toNatClampNeg), .int (M 0 (x3 + 1).toNatClampNeg), .ref 205, .int s0], hp nS M)) (am_cF_to (by with_unfolding_all rfl)) rfl (by with_unfolding_all rfl)).trans ?_
  show am_Wp _ 0 929 _ _ _ _ = _
  refine (eq_step (e := (.iadd, 1, 0, 0, 0)) (q := (930, [.ref 0, .ref 16, .ref 205, .int x3], [.int (x3 + 3), .ref 0, .int (M 0 (x3 + 2).toNatClampNeg), .int (M 0 (x3 + 1).toNatClampNeg), .ref 205, .int s0], hp nS M)) (am_cF_to (by with_unfolding_all rfl)) rfl (by with_unfolding_all rfl)).trans ?_
  show am_Wp _ 0 930 _ _ _ _ = _
  refine (eq_ald (e := (.iaload, 1, 0, 0, 0)) (by with_unfolding_all rfl) rfl (n := nS) (by with_unfolding_all rfl) h3).trans ?_
  show am_Wp _ 0 931 _ _ _ _ = _
  exact eq_call2 (e := (.invokevirtual 110, 3, 0, 271, 242)) (as := [.ref 205, .int (M 0 (x3 + 1).toNatClampNeg), .int (M 0 (x3 + 2).toNatClampNeg), .int (M 0 (x3 + 3).toNatClampNeg)]) (r := [.int s0]) (n := 4) (m := 5) (by with_unfolding_all rfl) rfl (by decide) (by with_unfolding_all rfl) (by decide) (by with_unfolding_all rfl) ⟨fun _ => am_rec_ok (c := 14) (by with_unfolding_all rfl) (by decide +kernel), fun z => by simp at z⟩
set_option maxRecDepth 20000 in
theorem b_0_934 {d nS : Nat} {x3 s0 s1 : Int32} {M : am_M} {Q : Option Value → am_H → Prop} : am_Wp d 0 934 [.ref 0, .ref 16, .ref 205, .int x3] [.int s1, .int s0] (hp nS M) Q = if s0 = s1 then am_Wp d 0 1410 [.ref 0, .ref 16, .ref 205, .int x3] [] (hp nS M) Q else am_Wp d 0 937 [.ref 0, .ref 16, .ref 205, .int x3] [] (hp nS M) Q := by
  exact eq_cmp_eq (by with_unfolding_all rfl)
set_option maxRecDepth 20000 in
theorem b_0_937 {d nS : Nat} {x3 : Int32} {M : am_M} {Q : Option Value → am_H → Prop} : am_Wp d 0 937 [.ref 0, .ref 16, .ref 205, .int x3] [] (hp nS M) Q = Q (some (.int 0)) (hp nS M) := by
  refine (eq_step (e := (.iconst 0, 1, 0, 0, 0)) (q := (938, [.ref 0, .ref 16, .ref 205, .int x3], [.int 0], hp nS M)) (am_cF_to (by with_unfolding_all rfl)) rfl (by with_unfolding_all rfl)).trans ?_
  show am_Wp _ 0 938 _ _ _ _ = _
  exact eq_retI2 (e := (.ireturn, 1, 0, 0, 0)) (t := .boolean) (by with_unfolding_all rfl) rfl (by with_unfolding_all rfl) rfl
set_option maxRecDepth 20000 in
theorem b_0_939 {d nS : Nat} {x3 : Int32} {M : am_M} {Q : Option Value → am_H → Prop} (h1 : vp_in (x3 + 1) nS) (h2 : vp_in (x3 + 2) nS) : am_Wp (d + 1) 0 939 [.ref 0, .ref 16, .ref 205, .int x3] [] (hp nS M) Q = am_Wp d 151 0 [.ref 16, .int (M 0 (x3 + 1).toNatClampNeg), .int (M 0 (x3 + 2).toNatClampNeg)] [] (hp nS M) (fun v h1 => am_Wp (d + 1) 0 953 [.ref 0, .ref 16, .ref 205, .int x3] (am_ans v []) h1 Q) := by
  refine (eq_step (e := (.aload_n 1, 1, 0, 0, 0)) (q := (940, [.ref 0, .ref 16, .ref 205, .int x3], [.ref 16], hp nS M)) (am_cF_to (by with_unfolding_all rfl)) rfl (by with_unfolding_all rfl)).trans ?_
  show am_Wp _ 0 940 _ _ _ _ = _
  refine (eq_step (e := (.aload_n 0, 1, 0, 0, 0)) (q := (941, [.ref 0, .ref 16, .ref 205, .int x3], [.ref 0, .ref 16], hp nS M)) (am_cF_to (by with_unfolding_all rfl)) rfl (by with_unfolding_all rfl)).trans ?_
  show am_Wp _ 0 941 _ _ _ _ = _
  refine (eq_step (e := (.iload_n 3, 1, 0, 0, 0)) (q := (942, [.ref 0, .ref 16, .ref 205, .int x3], [.int x3, .ref 0, .ref 16], hp nS M)) (am_cF_to (by with_unfolding_all rfl)) rfl (by with_unfolding_all rfl)).trans ?_
  show am_Wp _ 0 942 _ _ _ _ = _
  refine (eq_step (e := (.iconst 1, 1, 0, 0, 0)) (q := (943, [.ref 0, .ref 16, .ref 205, .int x3], [.int 1, .int x3, .ref 0, .ref 16], hp nS M)) (am_cF_to (by with_unfolding_all rfl)) rfl (by with_unfolding_all rfl)).trans ?_
  show am_Wp _ 0 943 _ _ _ _ = _
  refine (eq_step (e := (.iadd, 1, 0, 0, 0)) (q := (944, [.ref 0, .ref 16, .ref 205, .int x3], [.int (x3 + 1), .ref 0, .ref 16], hp nS M)) (am_cF_to (by with_unfolding_all rfl)) rfl (by with_unfolding_all rfl)).trans ?_
  show am_Wp _ 0 944 _ _ _ _ = _
  refine (eq_ald (e := (.iaload, 1, 0, 0, 0)) (by with_unfolding_all rfl) rfl (n := nS) (by with_unfolding_all rfl) h1).trans ?_
  show am_Wp _ 0 945 _ _ _ _ = _
  refine (eq_step (e := (.aload_n 0, 1, 0, 0, 0)) (q := (946, [.ref 0, .ref 16, .ref 205, .int x3], [.ref 0, .int (M 0 (x3 + 1).toNatClampNeg), .ref 16], hp nS M)) (am_cF_to (by with_unfolding_all rfl)) rfl (by with_unfolding_all rfl)).trans ?_
  show am_Wp _ 0 946 _ _ _ _ = _
  refine (eq_step (e := (.iload_n 3, 1, 0, 0, 0)) (q := (947, [.ref 0, .ref 16, .ref 205, .int x3], [.int x3, .ref 0, .int (M 0 (x3 + 1).toNatClampNeg), .ref 16], hp nS M)) (am_cF_to (by with_unfolding_all rfl)) rfl (by with_unfolding_all rfl)).trans ?_
  show am_Wp _ 0 947 _ _ _ _ = _
  refine (eq_step (e := (.iconst 2, 1, 0, 0, 0)) (q := (948, [.ref 0, .ref 16, .ref 205, .int x3], [.int 2, .int x3, .ref 0, .int (M 0 (x3 + 1).toNatClampNeg), .ref 16], hp nS M)) (am_cF_to (by with_unfolding_all rfl)) rfl (by with_unfolding_all rfl)).trans ?_
  show am_Wp _ 0 948 _ _ _ _ = _
  refine (eq_step (e := (.iadd, 1, 0, 0, 0)) (q := (949, [.ref 0, .ref 16, .ref 205, .int x3], [.int (x3 + 2), .ref 0, .int (M 0 (x3 + 1).toNatClampNeg), .ref 16], hp nS M)) (am_cF_to (by with_unfolding_all rfl)) rfl (by with_unfolding_all rfl)).trans ?_
  show am_Wp _ 0 949 _ _ _ _ = _
  refine (eq_ald (e := (.iaload, 1, 0, 0, 0)) (by with_unfolding_all rfl) rfl (n := nS) (by with_unfolding_all rfl) h2).trans ?_
  show am_Wp _ 0 950 _ _ _ _ = _
  exact eq_call2 (e := (.invokevirtual 111, 3, 0, 151, 243)) (as := [.ref 16, .int (M 0 (x3 + 1).toNatClampNeg), .int (M 0 (x3 + 2).toNatClampNeg)]) (r := []) (n := 3) (m := 3) (by with_unfolding_all rfl) rfl (by decide) (by with_unfolding_all rfl) (by decide) (by with_unfolding_all rfl) ⟨fun _ => am_rec_ok (c := 13) (by with_unfolding_all rfl) (by decide +kernel), fun z => by simp at z⟩
set_option maxRecDepth 20000 in
theorem b_0_953 {d nS : Nat} {x3 s0 : Int32} {M : am_M} {Q : Option Value → am_H → Prop} (h1 : vp_in (x3 + 1) nS) (h2 : vp_in (x3 + 2) nS) : am_Wp (d + 1) 0 953 [.ref 0, .ref 16, .ref 205, .int x3] [.int s0] (hp nS M) Q = am_Wp d 272 0 [.ref 205, .int (M 0 (x3 + 1).toNatClampNeg), .int (M 0 (x3 + 2).toNatClampNeg)] [] (hp nS M) (fun v h1 => am_Wp (d + 1) 0 967 [.ref 0, .ref 16, .ref 205, .int x3] (am_ans v [.int s0]) h1 Q) := by
  refine (eq_step (e := (.aload_n 2, 1, 0, 0, 0)) (q := (954, [.ref 0, .ref 16, .ref 205, .int x3], [.ref 205, .int s0], hp nS M)) (am_cF_to (by with_unfolding_all rfl)) rfl (by with_unfolding_all rfl)).trans ?_
  show am_Wp _ 0 954 _ _ _ _ = _
  refine (eq_step (e := (.aload_n 0, 1, 0, 0, 0)) (q := (955, [.ref 0, .ref 16, .ref 205, .int x3], [.ref 0, .ref 205, .int s0], hp nS M)) (am_cF_to (by with_unfolding_all rfl)) rfl (by with_unfolding_all rfl)).trans ?_
  show am_Wp _ 0 955 _ _ _ _ = _
  refine (eq_step (e := (.iload_n 3, 1, 0, 0, 0)) (q := (956, [.ref 0, .ref 16, .ref 205, .int x3], [.int x3, .ref 0, .ref 205, .int s0], hp nS M)) (am_cF_to (by with_unfolding_all rfl)) rfl (by with_unfolding_all rfl)).trans ?_
  show am_Wp _ 0 956 _ _ _ _ = _
  refine (eq_step (e := (.iconst 1, 1, 0, 0, 0)) (q := (957, [.ref 0, .ref 16, .ref 205, .int x3], [.int 1, .int x3, .ref 0, .ref 205, .int s0], hp nS M)) (am_cF_to (by with_unfolding_all rfl)) rfl (by with_unfolding_all rfl)).trans ?_
  show am_Wp _ 0 957 _ _ _ _ = _
  refine (eq_step (e := (.iadd, 1, 0, 0, 0)) (q := (958, [.ref 0, .ref 16, .ref 205, .int x3], [.int (x3 + 1), .ref 0, .ref 205, .int s0], hp nS M)) (am_cF_to (by with_unfolding_all rfl)) rfl (by with_unfolding_all rfl)).trans ?_
  show am_Wp _ 0 958 _ _ _ _ = _
  refine (eq_ald (e := (.iaload, 1, 0, 0, 0)) (by with_unfolding_all rfl) rfl (n := nS) (by with_unfolding_all rfl) h1).trans ?_
  show am_Wp _ 0 959 _ _ _ _ = _
  refine (eq_step (e := (.aload_n 0, 1, 0, 0, 0)) (q := (960, [.ref 0, .ref 16, .ref 205, .int x3], [.ref 0, .int (M 0 (x3 + 1).toNatClampNeg), .ref 205, .int s0], hp nS M)) (am_cF_to (by with_unfolding_all rfl)) rfl (by with_unfolding_all rfl)).trans ?_
  show am_Wp _ 0 960 _ _ _ _ = _
  refine (eq_step (e := (.iload_n 3, 1, 0, 0, 0)) (q := (961, [.ref 0, .ref 16, .ref 205, .int x3], [.int x3, .ref 0, .int (M 0 (x3 + 1).toNatClampNeg), .ref 205, .int s0], hp nS M)) (am_cF_to (by with_unfolding_all rfl)) rfl (by with_unfolding_all rfl)).trans ?_
  show am_Wp _ 0 961 _ _ _ _ = _
  refine (eq_step (e := (.iconst 2, 1, 0, 0, 0)) (q := (962, [.ref 0, .ref 16, .ref 205, .int x3], [.int 2, .int x3, .ref 0, .int (M 0 (x3 + 1).toNatClampNeg), .ref 205, .int s0], hp nS M)) (am_cF_to (by with_unfolding_all rfl)) rfl (by with_unfolding_all rfl)).trans ?_
  show am_Wp _ 0 962 _ _ _ _ = _
  refine (eq_step (e := (.iadd, 1, 0, 0, 0)) (q := (963, [.ref 0, .ref 16, .ref 205, .int x3], [.int (x3 + 2), .ref 0, .int (M 0 (x3 + 1).toNatClampNeg), .ref 205, .int s0], hp nS M)) (am_cF_to (by with_unfolding_all rfl)) rfl (by with_unfolding_all rfl)).trans ?_
  show am_Wp _ 0 963 _ _ _ _ = _
  refine (eq_ald (e := (.iaload, 1, 0, 0, 0)) (by with_unfolding_all rfl) rfl (n := nS) (by with_unfolding_all rfl) h2).trans ?_
  show am_Wp _ 0 964 _ _ _ _ = _
  exact eq_call2 (e := (.invokevirtual 114, 3, 0, 272, 244)) (as := [.ref 205, .int (M 0 (x3 + 1).toNatClampNeg), .int (M 0 (x3 + 2).toNatClampNeg)]) (r := [.int s0]) (n := 3) (m := 3) (by with_unfolding_all rfl) rfl (by decide) (by with_unfolding_all rfl) (by decide) (by with_unfolding_all rfl) ⟨fun _ => am_rec_ok (c := 14) (by with_unfolding_all rfl) (by decide +kernel), fun z => by simp at z⟩
set_option maxRecDepth 20000 in
theorem b_0_967 {d nS : Nat} {x3 s0 s1 : Int32} {M : am_M} {Q : Option Value → am_H → Prop} : am_Wp d 0 967 [.ref 0, .ref 16, .ref 205, .int x3] [.int s1, .int s0] (hp nS M) Q = if s0 = s1 then am_Wp d 0 1410 [.ref 0, .ref 16, .ref 205, .int x3] [] (hp nS M) Q else am_Wp d 0 970 [.ref 0, .ref 16, .ref 205, .int x3] [] (hp nS M) Q := by
  exact eq_cmp_eq (by with_unfolding_all rfl)
set_option maxRecDepth 20000 in
theorem b_0_970 {d nS : Nat} {x3 : Int32} {M : am_M} {Q : Option Value → am_H → Prop} : am_Wp d 0 970 [.ref 0, .ref 16, .ref 205, .int x3] [] (hp nS M) Q = Q (some (.int 0)) (hp nS M) := by
  refine (eq_step (e := (.iconst 0, 1, 0, 0, 0)) (q := (971, [.ref 0, .ref 16, .ref 205, .int x3], [.int 0], hp nS M)) (am_cF_to (by with_unfolding_all rfl)) rfl (by with_unfolding_all rfl)).trans ?_
  show am_Wp _ 0 971 _ _ _ _ = _
  exact eq_retI2 (e := (.ireturn, 1, 0, 0, 0)) (t := .boolean) (by with_unfolding_all rfl) rfl (by with_unfolding_all rfl) rfl
set_option maxRecDepth 20000 in
theorem b_0_972 {d nS : Nat} {x3 : Int32} {M : am_M} {Q : Option Value → am_H → Prop} (h1 : vp_in (x3 + 1) nS) (h2 : vp_in (x3 + 2) nS) : am_Wp (d + 1) 0 972 [.ref 0, .ref 16, .ref 205, .int x3] [] (hp nS M) Q = am_Wp d 152 0 [.ref 16, .int (M 0 (x3 + 1).toNatClampNeg), .int (M 0 (x3 + 2).toNatClampNeg), .retAddr 0] [] (hp nS M) (fun v h1 => am_Wp (d + 1) 0 986 [.ref 0, .ref 16, .ref 205, .int x3] (am_ans v []) h1 Q) := by
  refine (eq_step (e := (.aload_n 1, 1, 0, 0, 0)) (q := (973, [.ref 0, .ref 16, .ref 205, .int x3], [.ref 16], hp nS M)) (am_cF_to (by with_unfolding_all rfl)) rfl (by with_unfolding_all rfl)).trans ?_
  show am_Wp _ 0 973 _ _ _ _ = _
  refine (eq_step (e := (.aload_n 0, 1, 0, 0, 0)) (q := (974, [.ref 0, .ref 16, .ref 205, .int x3], [.ref 0, .ref 16], hp nS M)) (am_cF_to (by with_unfolding_all rfl)) rfl (by with_unfolding_all rfl)).trans ?_
  show am_Wp _ 0 974 _ _ _ _ = _
  refine (eq_step (e := (.iload_n 3, 1, 0, 0, 0)) (q := (975, [.ref 0, .ref 16, .ref 205, .int x3], [.int x3, .ref 0, .ref 16], hp nS M)) (am_cF_to (by with_unfolding_all rfl)) rfl (by with_unfolding_all rfl)).trans ?_
  show am_Wp _ 0 975 _ _ _ _ = _
  refine (eq_step (e := (.iconst 1, 1, 0, 0, 0)) (q := (976, [.ref 0, .ref 16, .ref 205, .int x3], [.int 1, .int x3, .ref 0, .ref 16], hp nS M)) (am_cF_to (by with_unfolding_all rfl)) rfl (by with_unfolding_all rfl)).trans ?_
  show am_Wp _ 0 976 _ _ _ _ = _
  refine (eq_step (e := (.iadd, 1, 0, 0, 0)) (q := (977, [.ref 0, .ref 16, .ref 205, .int x3], [.int (x3 + 1), .ref 0, .ref 16], hp nS M)) (am_cF_to (by with_unfolding_all rfl)) rfl (by with_unfolding_all rfl)).trans ?_
  show am_Wp _ 0 977 _ _ _ _ = _
  refine (eq_ald (e := (.iaload, 1, 0, 0, 0)) (by with_unfolding_all rfl) rfl (n := nS) (by with_unfolding_all rfl) h1).trans ?_
  show am_Wp _ 0 978 _ _ _ _ = _
  refine (eq_step (e := (.aload_n 0, 1, 0, 0, 0)) (q := (979, [.ref 0, .ref 16, .ref 205, .int x3], [.ref 0, .int (M 0 (x3 + 1).toNatClampNeg), .ref 16], hp nS M)) (am_cF_to (by with_unfolding_all rfl)) rfl (by with_unfolding_all rfl)).trans ?_
  show am_Wp _ 0 979 _ _ _ _ = _
  refine (eq_step (e := (.iload_n 3, 1, 0, 0, 0)) (q := (980, [.ref 0, .ref 16, .ref 205, .int x3], [.int x3, .ref 0, .int (M 0 (x3 + 1).toNatClampNeg), .ref 16], hp nS M)) (am_cF_to (by with_unfolding_all rfl)) rfl (by with_unfolding_all rfl)).trans ?_
  show am_Wp _ 0 980 _ _ _ _ = _
  refine (eq_step (e := (.iconst 2, 1, 0, 0, 0)) (q := (981, [.ref 0, .ref 16, .ref 205, .int x3], [.int 2, .int x3, .ref 0, .int (M 0 (x3 + 1).toNatClampNeg), .ref 16], hp nS M)) (am_cF_to (by with_unfolding_all rfl)) rfl (by with_unfolding_all rfl)).trans ?_
  show am_Wp _ 0 981 _ _ _ _ = _
  refine (eq_step (e := (.iadd, 1, 0, 0, 0)) (q := (982, [.ref 0, .ref 16, .ref 205, .int x3], [.int (x3 + 2), .ref 0, .int (M 0 (x3 + 1).toNatClampNeg), .ref 16], hp nS M)) (am_cF_to (by with_unfolding_all rfl)) rfl (by with_unfolding_all rfl)).trans ?_
  show am_Wp _ 0 982 _ _ _ _ = _
  refine (eq_ald (e := (.iaload, 1, 0, 0, 0)) (by with_unfolding_all rfl) rfl (n := nS) (by with_unfolding_all rfl) h2).trans ?_
  show am_Wp _ 0 983 _ _ _ _ = _
  exact eq_call2 (e := (.invokevirtual 115, 3, 0, 152, 245)) (as := [.ref 16, .int (M 0 (x3 + 1).toNatClampNeg), .int (M 0 (x3 + 2).toNatClampNeg)]) (r := []) (n := 3) (m := 4) (by with_unfolding_all rfl) rfl (by decide) (by with_unfolding_all rfl) (by decide) (by with_unfolding_all rfl) ⟨fun _ => am_rec_ok (c := 13) (by with_unfolding_all rfl) (by decide +kernel), fun z => by simp at z⟩
set_option maxRecDepth 20000 in
theorem b_0_986 {d nS : Nat} {x3 s0 : Int32} {M : am_M} {Q : Option Value → am_H → Prop} (h1 : vp_in (x3 + 1) nS) (h2 : vp_in (x3 + 2) nS) : am_Wp (d + 1) 0 986 [.ref 0, .ref 16, .ref 205, .int x3] [.int s0] (hp nS M) Q = am_Wp d 275 0 [.ref 205, .int (M 0 (x3 + 1).toNatClampNeg), .int (M 0 (x3 + 2).toNatClampNeg), .retAddr 0, .retAddr 0, .retAddr 0, .retAddr 0] [] (hp nS M) (fun v h1 => am_Wp (d + 1) 0 1000 [.ref 0, .ref 16, .ref 205, .int x3] (am_ans v [.int s0]) h1 Q) := by
  refine (eq_step (e := (.aload_n 2, 1, 0, 0, 0)) (q := (987, [.ref 0, .ref 16, .ref 205, .int x3], [.ref 205, .int s0], hp nS M)) (am_cF_to (by with_unfolding_all rfl)) rfl (by with_unfolding_all rfl)).trans ?_
  show am_Wp _ 0 987 _ _ _ _ = _
  refine (eq_step (e := (.aload_n 0, 1, 0, 0, 0)) (q := (988, [.ref 0, .ref 16, .ref 205, .int x3], [.ref 0, .ref 205, .int s0], hp nS M)) (am_cF_to (by with_unfolding_all rfl)) rfl (by with_unfolding_all rfl)).trans ?_
  show am_Wp _ 0 988 _ _ _ _ = _
  refine (eq_step (e := (.iload_n 3, 1, 0, 0, 0)) (q := (989, [.ref 0, .ref 16, .ref 205, .int x3], [.int x3, .ref 0, .ref 205, .int s0], hp nS M)) (am_cF_to (by with_unfolding_all rfl)) rfl (by with_unfolding_all rfl)).trans ?_
  show am_Wp _ 0 989 _ _ _ _ = _
  refine (eq_step (e := (.iconst 1, 1, 0, 0, 0)) (q := (990, [.ref 0, .ref 16, .ref 205, .int x3], [.int 1, .int x3, .ref 0, .ref 205, .int s0], hp nS M)) (am_cF_to (by with_unfolding_all rfl)) rfl (by with_unfolding_all rfl)).trans ?_
  show am_Wp _ 0 990 _ _ _ _ = _
  refine (eq_step (e := (.iadd, 1, 0, 0, 0)) (q := (991, [.ref 0, .ref 16, .ref 205, .int x3], [.int (x3 + 1), .ref 0, .ref 205, .int s0], hp nS M)) (am_cF_to (by with_unfolding_all rfl)) rfl (by with_unfolding_all rfl)).trans ?_
  show am_Wp _ 0 991 _ _ _ _ = _
  refine (eq_ald (e := (.iaload, 1, 0, 0, 0)) (by with_unfolding_all rfl) rfl (n := nS) (by with_unfolding_all rfl) h1).trans ?_
  show am_Wp _ 0 992 _ _ _ _ = _
  refine (eq_step (e := (.aload_n 0, 1, 0, 0, 0)) (q := (993, [.ref 0, .ref 16, .ref 205, .int x3], [.ref 0, .int (M 0 (x3 + 1).toNatClampNeg), .ref 205, .int s0], hp nS M)) (am_cF_to (by with_unfolding_all rfl)) rfl (by with_unfolding_all rfl)).trans ?_
  show am_Wp _ 0 993 _ _ _ _ = _
  refine (eq_step (e := (.iload_n 3, 1, 0, 0, 0)) (q := (994, [.ref 0, .ref 16, .ref 205, .int x3], [.int x3, .ref 0, .int (M 0 (x3 + 1).toNatClampNeg), .ref 205, .int s0], hp nS M)) (am_cF_to (by with_unfolding_all rfl)) rfl (by with_unfolding_all rfl)).trans ?_
  show am_Wp _ 0 994 _ _ _ _ = _
  refine (eq_step (e := (.iconst 2, 1, 0, 0, 0)) (q := (995, [.ref 0, .ref 16, .ref 205, .int x3], [.int 2, .int x3, .ref 0, .int (M 0 (x3 + 1).toNatClampNeg), .ref 205, .int s0], hp nS M)) (am_cF_to (by with_unfolding_all rfl)) rfl (by with_unfolding_all rfl)).trans ?_
  show am_Wp _ 0 995 _ _ _ _ = _
  refine (eq_step (e := (.iadd, 1, 0, 0, 0)) (q := (996, [.ref 0, .ref 16, .ref 205, .int x3], [.int (x3 + 2), .ref 0, .int (M 0 (x3 + 1).toNatClampNeg), .ref 205, .int s0], hp nS M)) (am_cF_to (by with_unfolding_all rfl)) rfl (by with_unfolding_all rfl)).trans ?_
  show am_Wp _ 0 996 _ _ _ _ = _
  refine (eq_ald (e := (.iaload, 1, 0, 0, 0)) (by with_unfolding_all rfl) rfl (n := nS) (by with_unfolding_all rfl) h2).trans ?_
  show am_Wp _ 0 997 _ _ _ _ = _
  exact eq_call2 (e := (.invokevirtual 118, 3, 0, 275, 246)) (as := [.ref 205, .int (M 0 (x3 + 1).toNatClampNeg), .int (M 0 (x3 + 2).toNatClampNeg)]) (r := [.int s0]) (n := 3) (m := 7) (by with_unfolding_all rfl) rfl (by decide) (by with_unfolding_all rfl) (by decide) (by with_unfolding_all rfl) ⟨fun _ => am_rec_ok (c := 14) (by with_unfolding_all rfl) (by decide +kernel), fun z => by simp at z⟩
set_option maxRecDepth 20000 in
theorem b_0_1000 {d nS : Nat} {x3 s0 s1 : Int32} {M : am_M} {Q : Option Value → am_H → Prop} : am_Wp d 0 1000 [.ref 0, .ref 16, .ref 205, .int x3] [.int s1, .int s0] (hp nS M) Q = if s0 = s1 then am_Wp d 0 1410 [.ref 0, .ref 16, .ref 205, .int x3] [] (hp nS M) Q else am_Wp d 0 1003 [.ref 0, .ref 16, .ref 205, .int x3] [] (hp nS M) Q := by
  exact eq_cmp_eq (by with_unfolding_all rfl)
set_option maxRecDepth 20000 in
theorem b_0_1003 {d nS : Nat} {x3 : Int32} {M : am_M} {Q : Option Value → am_H → Prop} : am_Wp d 0 1003 [.ref 0, .ref 16, .ref 205, .int x3] [] (hp nS M) Q = Q (some (.int 0)) (hp nS M) := by
  refine (eq_step (e := (.iconst 0, 1, 0, 0, 0)) (q := (1004, [.ref 0, .ref 16, .ref 205, .int x3], [.int 0], hp nS M)) (am_cF_to (by with_unfolding_all rfl)) rfl (by with_unfolding_all rfl)).trans ?_
  show am_Wp _ 0 1004 _ _ _ _ = _
  exact eq_retI2 (e := (.ireturn, 1, 0, 0, 0)) (t := .boolean) (by with_unfolding_all rfl) rfl (by with_unfolding_all rfl) rfl
set_option maxRecDepth 20000 in
theorem b_0_1005 {d nS : Nat} {x3 : Int32} {M : am_M} {Q : Option Value → am_H → Prop} (h1 : vp_in (x3 + 1) nS) (h2 : vp_in (x3 + 2) nS) : am_Wp (d + 1) 0 1005 [.ref 0, .ref 16, .ref 205, .int x3] [] (hp nS M) Q = am_Wp d 153 0 [.ref 16, .int (M 0 (x3 + 1).toNatClampNeg), .int (M 0 (x3 + 2).toNatClampNeg)] [] (hp nS M) (fun v h1 => am_Wp (d + 1) 0 1019 [.ref 0, .ref 16, .ref 205, .int x3] (am_ans v []) h1 Q) := by
  refine (eq_step (e := (.aload_n 1, 1, 0, 0, 0)) (q := (1006, [.ref 0, .ref 16, .ref 205, .int x3], [.ref 16], hp nS M)) (am_cF_to (by with_unfolding_all rfl)) rfl (by with_unfolding_all rfl)).trans ?_
  show am_Wp _ 0 1006 _ _ _ _ = _
  refine (eq_step (e := (.aload_n 0, 1, 0, 0, 0)) (q := (1007, [.ref 0, .ref 16, .ref 205, .int x3], [.ref 0, .ref 16], hp nS M)) (am_cF_to (by with_unfolding_all rfl)) rfl (by with_unfolding_all rfl)).trans ?_
  show am_Wp _ 0 1007 _ _ _ _ = _
  refine (eq_step (e := (.iload_n 3, 1, 0, 0, 0)) (q := (1008, [.ref 0, .ref 16, .ref 205, .int x3], [.int x3, .ref 0, .ref 16], hp nS M)) (am_cF_to (by with_unfolding_all rfl)) rfl (by with_unfolding_all rfl)).trans ?_
  show am_Wp _ 0 1008 _ _ _ _ = _
  refine (eq_step (e := (.iconst 1, 1, 0, 0, 0)) (q := (1009, [.ref 0, .ref 16, .ref 205, .int x3], [.int 1, .int x3, .ref 0, .ref 16], hp nS M)) (am_cF_to (by with_unfolding_all rfl)) rfl (by with_unfolding_all rfl)).trans ?_
  show am_Wp _ 0 1009 _ _ _ _ = _
  refine (eq_step (e := (.iadd, 1, 0, 0, 0)) (q := (1010, [.ref 0, .ref 16, .ref 205, .int x3], [.int (x3 + 1), .ref 0, .ref 16], hp nS M)) (am_cF_to (by with_unfolding_all rfl)) rfl (by with_unfolding_all rfl)).trans ?_
  show am_Wp _ 0 1010 _ _ _ _ = _
  refine (eq_ald (e := (.iaload, 1, 0, 0, 0)) (by with_unfolding_all rfl) rfl (n := nS) (by with_unfolding_all rfl) h1).trans ?_
  show am_Wp _ 0 1011 _ _ _ _ = _
  refine (eq_step (e := (.aload_n 0, 1, 0, 0, 0)) (q := (1012, [.ref 0, .ref 16, .ref 205, .int x3], [.ref 0, .int (M 0 (x3 + 1).toNatClampNeg), .ref 16], hp nS M)) (am_cF_to (by with_unfolding_all rfl)) rfl (by with_unfolding_all rfl)).trans ?_
  show am_Wp _ 0 1012 _ _ _ _ = _
  refine (eq_step (e := (.iload_n 3, 1, 0, 0, 0)) (q := (1013, [.ref 0, .ref 16, .ref 205, .int x3], [.int x3, .ref 0, .int (M 0 (x3 + 1).toNatClampNeg), .ref 16], hp nS M)) (am_cF_to (by with_unfolding_all rfl)) rfl (by with_unfolding_all rfl)).trans ?_
  show am_Wp _ 0 1013 _ _ _ _ = _
  refine (eq_step (e := (.iconst 2, 1, 0, 0, 0)) (q := (1014, [.ref 0, .ref 16, .ref 205, .int x3], [.int 2, .int x3, .ref 0, .int (M 0 (x3 + 1).toNatClampNeg), .ref 16], hp nS M)) (am_cF_to (by with_unfolding_all rfl)) rfl (by with_unfolding_all rfl)).trans ?_
  show am_Wp _ 0 1014 _ _ _ _ = _
  refine (eq_step (e := (.iadd, 1, 0, 0, 0)) (q := (1015, [.ref 0, .ref 16, .ref 205, .int x3], [.int (x3 + 2), .ref 0, .int (M 0 (x3 + 1).toNatClampNeg), .ref 16], hp nS M)) (am_cF_to (by with_unfolding_all rfl)) rfl (by with_unfolding_all rfl)).trans ?_
  show am_Wp _ 0 1015 _ _ _ _ = _
  refine (eq_ald (e := (.iaload, 1, 0, 0, 0)) (by with_unfolding_all rfl) rfl (n := nS) (by with_unfolding_all rfl) h2).trans ?_
  show am_Wp _ 0 1016 _ _ _ _ = _
  exact eq_call2 (e := (.invokevirtual 119, 3, 0, 153, 247)) (as := [.ref 16, .int (M 0 (x3 + 1).toNatClampNeg), .int (M 0 (x3 + 2).toNatClampNeg)]) (r := []) (n := 3) (m := 3) (by with_unfolding_all rfl) rfl (by decide) (by with_unfolding_all rfl) (by decide) (by with_unfolding_all rfl) ⟨fun _ => am_rec_ok (c := 13) (by with_unfolding_all rfl) (by decide +kernel), fun z => by simp at z⟩
set_option maxRecDepth 20000 in
theorem b_0_1019 {d nS : Nat} {x3 s0 : Int32} {M : am_M} {Q : Option Value → am_H → Prop} (h1 : vp_in (x3 + 1) nS) (h2 : vp_in (x3 + 2) nS) : am_Wp (d + 1) 0 1019 [.ref 0, .ref 16, .ref 205, .int x3] [.int s0] (hp nS M) Q = am_Wp d 276 0 [.ref 205, .int (M 0 (x3 + 1).toNatClampNeg), .int (M 0 (x3 + 2).toNatClampNeg), .retAddr 0, .retAddr 0] [] (hp nS M) (fun v h1 => am_Wp (d + 1) 0 1033 [.ref 0, .ref 16, .ref 205, .int x3] (am_ans v [.int s0]) h1 Q) := by
  refine (eq_step (e := (.aload_n 2, 1, 0, 0, 0)) (q := (1020, [.ref 0, .ref 16, .ref 205, .int x3], [.ref 205, .int s0], hp nS M)) (am_cF_to (by with_unfolding_all rfl)) rfl (by with_unfolding_all rfl)).trans ?_
  show am_Wp _ 0 1020 _ _ _ _ = _
  refine (eq_step (e := (.aload_n 0, 1, 0, 0, 0)) (q := (1021, [.ref 0, .ref 16, .ref 205, .int x3], [.ref 0, .ref 205, .int s0], hp nS M)) (am_cF_to (by with_unfolding_all rfl)) rfl (by with_unfolding_all rfl)).trans ?_
  show am_Wp _ 0 1021 _ _ _ _ = _
  refine (eq_step (e := (.iload_n 3, 1, 0, 0, 0)) (q := (1022, [.ref 0, .ref 16, .ref 205, .int x3], [.int x3, .ref 0, .ref 205, .int s0], hp nS M)) (am_cF_to (by with_unfolding_all rfl)) rfl (by with_unfolding_all rfl)).trans ?_
  show am_Wp _ 0 1022 _ _ _ _ = _
  refine (eq_step (e := (.iconst 1, 1, 0, 0, 0)) (q := (1023, [.ref 0, .ref 16, .ref 205, .int x3], [.int 1, .int x3, .ref 0, .ref 205, .int s0], hp nS M)) (am_cF_to (by with_unfolding_all rfl)) rfl (by with_unfolding_all rfl)).trans ?_
  show am_Wp _ 0 1023 _ _ _ _ = _
  refine (eq_step (e := (.iadd, 1, 0, 0, 0)) (q := (1024, [.ref 0, .ref 16, .ref 205, .int x3], [.int (x3 + 1), .ref 0, .ref 205, .int s0], hp nS M)) (am_cF_to (by with_unfolding_all rfl)) rfl (by with_unfolding_all rfl)).trans ?_
  show am_Wp _ 0 1024 _ _ _ _ = _
  refine (eq_ald (e := (.iaload, 1, 0, 0, 0)) (by with_unfolding_all rfl) rfl (n := nS) (by with_unfolding_all rfl) h1).trans ?_
  show am_Wp _ 0 1025 _ _ _ _ = _
  refine (eq_step (e := (.aload_n 0, 1, 0, 0, 0)) (q := (1026, [.ref 0, .ref 16, .ref 205, .int x3], [.ref 0, .int (M 0 (x3 + 1).toNatClampNeg), .ref 205, .int s0], hp nS M)) (am_cF_to (by with_unfolding_all rfl)) rfl (by with_unfolding_all rfl)).trans ?_
  show am_Wp _ 0 1026 _ _ _ _ = _
  refine (eq_step (e := (.iload_n 3, 1, 0, 0, 0)) (q := (1027, [.ref 0, .ref 16, .ref 205, .int x3], [.int x3, .ref 0, .int (M 0 (x3 + 1).toNatClampNeg), .ref 205, .int s0], hp nS M)) (am_cF_to (by with_unfolding_all rfl)) rfl (by with_unfolding_all rfl)).trans ?_
  show am_Wp _ 0 1027 _ _ _ _ = _
  refine (eq_step (e := (.iconst 2, 1, 0, 0, 0)) (q := (1028, [.ref 0, .ref 16, .ref 205, .int x3], [.int 2, .int x3, .ref 0, .int (M 0 (x3 + 1).toNatClampNeg), .ref 205, .int s0], hp nS M)) (am_cF_to (by with_unfolding_all rfl)) rfl (by with_unfolding_all rfl)).trans ?_
  show am_Wp _ 0 1028 _ _ _ _ = _
  refine (eq_step (e := (.iadd, 1, 0, 0, 0)) (q := (1029, [.ref 0, .ref 16, .ref 205, .int x3], [.int (x3 + 2), .ref 0, .int (M 0 (x3 + 1).toNatClampNeg), .ref 205, .int s0], hp nS M)) (am_cF_to (by with_unfolding_all rfl)) rfl (by with_unfolding_all rfl)).trans ?_
  show am_Wp _ 0 1029 _ _ _ _ = _
  refine (eq_ald (e := (.iaload, 1, 0, 0, 0)) (by with_unfolding_all rfl) rfl (n := nS) (by with_unfolding_all rfl) h2).trans ?_
  show am_Wp _ 0 1030 _ _ _ _ = _
  exact eq_call2 (e := (.invokevirtual 122, 3, 0, 276, 248)) (as := [.ref 205, .int (M 0 (x3 + 1).toNatClampNeg), .int (M 0 (x3 + 2).toNatClampNeg)]) (r := [.int s0]) (n := 3) (m := 5) (by with_unfolding_all rfl) rfl (by decide) (by with_unfolding_all rfl) (by decide) (by with_unfolding_all rfl) ⟨fun _ => am_rec_ok (c := 14) (by with_unfolding_all rfl) (by decide +kernel), fun z => by simp at z⟩
set_option maxRecDepth 20000 in
theorem b_0_1033 {d nS : Nat} {x3 s0 s1 : Int32} {M : am_M} {Q : Option Value → am_H → Prop} : am_Wp d 0 1033 [.ref 0, .ref 16, .ref 205, .int x3] [.int s1, .int s0] (hp nS M) Q = if s0 = s1 then am_Wp d 0 1410 [.ref 0, .ref 16, .ref 205, .int x3] [] (hp nS M) Q else am_Wp d 0 1036 [.ref 0, .ref 16, .ref 205, .int x3] [] (hp nS M) Q := by
  exact eq_cmp_eq (by with_unfolding_all rfl)
set_option maxRecDepth 20000 in
theorem b_0_1036 {d nS : Nat} {x3 : Int32} {M : am_M} {Q : Option Value → am_H → Prop} : am_Wp d 0 1036 [.ref 0, .ref 16, .ref 205, .int x3] [] (hp nS M) Q = Q (some (.int 0)) (hp nS M) := by
  refine (eq_step (e := (.iconst 0, 1, 0, 0, 0)) (q := (1037, [.ref 0, .ref 16, .ref 205, .int x3], [.int 0], hp nS M)) (am_cF_to (by with_unfolding_all rfl)) rfl (by with_unfolding_all rfl)).trans ?_
  show am_Wp _ 0 1037 _ _ _ _ = _
  exact eq_retI2 (e := (.ireturn, 1, 0, 0, 0)) (t := .boolean) (by with_unfolding_all rfl) rfl (by with_unfolding_all rfl) rfl
set_option maxRecDepth 20000 in
theorem b_0_1038 {d nS : Nat} {x3 : Int32} {M : am_M} {Q : Option Value → am_H → Prop} (h1 : vp_in (x3 + 1) nS) (h2 : vp_in (x3 + 2) nS) : am_Wp (d + 1) 0 1038 [.ref 0, .ref 16, .ref 205, .int x3] [] (hp nS M) Q = am_Wp d 154 0 [.ref 16, .int (M 0 (x3 + 1).toNatClampNeg), .int (M 0 (x3 + 2).toNatClampNeg), .retAddr 0] [] (hp nS M) (fun v h1 => am_Wp (d + 1) 0 1052 [.ref 0, .ref 16, .ref 205, .int x3] (am_ans v []) h1 Q) := by
  refine (eq_step (e := (.aload_n 1, 1, 0, 0, 0)) (q := (1039, [.ref 0, .ref 16, .ref 205, .int x3], [.ref 16], hp nS M)) (am_cF_to (by with_unfolding_all rfl)) rfl (by with_unfolding_all rfl)).trans ?_
  show am_Wp _ 0 1039 _ _ _ _ = _
  refine (eq_step (e := (.aload_n 0, 1, 0, 0, 0)) (q := (1040, [.ref 0, .ref 16, .ref 205, .int x3], [.ref 0, .ref 16], hp nS M)) (am_cF_to (by with_unfolding_all rfl)) rfl (by with_unfolding_all rfl)).trans ?_
  show am_Wp _ 0 1040 _ _ _ _ = _
  refine (eq_step (e := (.iload_n 3, 1, 0, 0, 0)) (q := (1041, [.ref 0, .ref 16, .ref 205, .int x3], [.int x3, .ref 0, .ref 16], hp nS M)) (am_cF_to (by with_unfolding_all rfl)) rfl (by with_unfolding_all rfl)).trans ?_
  show am_Wp _ 0 1041 _ _ _ _ = _
  refine (eq_step (e := (.iconst 1, 1, 0, 0, 0)) (q := (1042, [.ref 0, .ref 16, .ref 205, .int x3], [.int 1, .int x3, .ref 0, .ref 16], hp nS M)) (am_cF_to (by with_unfolding_all rfl)) rfl (by with_unfolding_all rfl)).trans ?_
  show am_Wp _ 0 1042 _ _ _ _ = _
  refine (eq_step (e := (.iadd, 1, 0, 0, 0)) (q := (1043, [.ref 0, .ref 16, .ref 205, .int x3], [.int (x3 + 1), .ref 0, .ref 16], hp nS M)) (am_cF_to (by with_unfolding_all rfl)) rfl (by with_unfolding_all rfl)).trans ?_
  show am_Wp _ 0 1043 _ _ _ _ = _
  refine (eq_ald (e := (.iaload, 1, 0, 0, 0)) (by with_unfolding_all rfl) rfl (n := nS) (by with_unfolding_all rfl) h1).trans ?_
  show am_Wp _ 0 1044 _ _ _ _ = _
  refine (eq_step (e := (.aload_n 0, 1, 0, 0, 0)) (q := (1045, [.ref 0, .ref 16, .ref 205, .int x3], [.ref 0, .int (M 0 (x3 + 1).toNatClampNeg), .ref 16], hp nS M)) (am_cF_to (by with_unfolding_all rfl)) rfl (by with_unfolding_all rfl)).trans ?_
  show am_Wp _ 0 1045 _ _ _ _ = _
  refine (eq_step (e := (.iload_n 3, 1, 0, 0, 0)) (q := (1046, [.ref 0, .ref 16, .ref 205, .int x3], [.int x3, .ref 0, .int (M 0 (x3 + 1).toNatClampNeg), .ref 16], hp nS M)) (am_cF_to (by with_unfolding_all rfl)) rfl (by with_unfolding_all rfl)).trans ?_
  show am_Wp _ 0 1046 _ _ _ _ = _
  refine (eq_step (e := (.iconst 2, 1, 0, 0, 0)) (q := (1047, [.ref 0, .ref 16, .ref 205, .int x3], [.int 2, .int x3, .ref 0, .int (M 0 (x3 + 1).toNatClampNeg), .ref 16], hp nS M)) (am_cF_to (by with_unfolding_all rfl)) rfl (by with_unfolding_all rfl)).trans ?_
  show am_Wp _ 0 1047 _ _ _ _ = _
  refine (eq_step (e := (.iadd, 1, 0, 0, 0)) (q := (1048, [.ref 0, .ref 16, .ref 205, .int x3], [.int (x3 + 2), .ref 0, .int (M 0 (x3 + 1).toNatClampNeg), .ref 16], hp nS M)) (am_cF_to (by with_unfolding_all rfl)) rfl (by with_unfolding_all rfl)).trans ?_
  show am_Wp _ 0 1048 _ _ _ _ = _
  refine (eq_ald (e := (.iaload, 1, 0, 0, 0)) (by with_unfolding_all rfl) rfl (n := nS) (by with_unfolding_all rfl) h2).trans ?_
  show am_Wp _ 0 1049 _ _ _ _ = _
  exact eq_call2 (e := (.invokevirtual 123, 3, 0, 154, 249)) (as := [.ref 16, .int (M 0 (x3 + 1).toNatClampNeg), .int (M 0 (x3 + 2).toNatClampNeg)]) (r := []) (n := 3) (m := 4) (by with_unfolding_all rfl) rfl (by decide) (by with_unfolding_all rfl) (by decide) (by with_unfolding_all rfl) ⟨fun _ => am_rec_ok (c := 13) (by with_unfolding_all rfl) (by decide +kernel), fun z => by simp at z⟩
set_option maxRecDepth 20000 in
theorem b_0_1052 {d nS : Nat} {x3 s0 : Int32} {M : am_M} {Q : Option Value → am_H → Prop} (h1 : vp_in (x3 + 1) nS) (h2 : vp_in (x3 + 2) nS) : am_Wp (d + 1) 0 1052 [.ref 0, .ref 16, .ref 205, .int x3] [.int s0] (hp nS M) Q = am_Wp d 259 0 [.ref 205, .int (M 0 (x3 + 1).toNatClampNeg), .int (M 0 (x3 + 2).toNatClampNeg), .retAddr 0, .retAddr 0, .retAddr 0] [] (hp nS M) (fun v h1 => am_Wp (d + 1) 0 1066 [.ref 0, .ref 16, .ref 205, .int x3] (am_ans v [.int s0]) h1 Q) := by
  refine (eq_step (e := (.aload_n 2, 1, 0, 0, 0)) (q := (1053, [.ref 0, .ref 16, .ref 205, .int x3], [.ref 205, .int s0], hp nS M)) (am_cF_to (by with_unfolding_all rfl)) rfl (by with_unfolding_all rfl)).trans ?_
  show am_Wp _ 0 1053 _ _ _ _ = _
  refine (eq_step (e := (.aload_n 0, 1, 0, 0, 0)) (q := (1054, [.ref 0, .ref 16, .ref 205, .int x3], [.ref 0, .ref 205, .int s0], hp nS M)) (am_cF_to (by with_unfolding_all rfl)) rfl (by with_unfolding_all rfl)).trans ?_
  show am_Wp _ 0 1054 _ _ _ _ = _
  refine (eq_step (e := (.iload_n 3, 1, 0, 0, 0)) (q := (1055, [.ref 0, .ref 16, .ref 205, .int x3], [.int x3, .ref 0, .ref 205, .int s0], hp nS M)) (am_cF_to (by with_unfolding_all rfl)) rfl (by with_unfolding_all rfl)).trans ?_
  show am_Wp _ 0 1055 _ _ _ _ = _
  refine (eq_step (e := (.iconst 1, 1, 0, 0, 0)) (q := (1056, [.ref 0, .ref 16, .ref 205, .int x3], [.int 1, .int x3, .ref 0, .ref 205, .int s0], hp nS M)) (am_cF_to (by with_unfolding_all rfl)) rfl (by with_unfolding_all rfl)).trans ?_
  show am_Wp _ 0 1056 _ _ _ _ = _
  refine (eq_step (e := (.iadd, 1, 0, 0, 0)) (q := (1057, [.ref 0, .ref 16, .ref 205, .int x3], [.int (x3 + 1), .ref 0, .ref 205, .int s0], hp nS M)) (am_cF_to (by with_unfolding_all rfl)) rfl (by with_unfolding_all rfl)).trans ?_
  show am_Wp _ 0 1057 _ _ _ _ = _
  refine (eq_ald (e := (.iaload, 1, 0, 0, 0)) (by with_unfolding_all rfl) rfl (n := nS) (by with_unfolding_all rfl) h1).trans ?_
  show am_Wp _ 0 1058 _ _ _ _ = _
  refine (eq_step (e := (.aload_n 0, 1, 0, 0, 0)) (q := (1059, [.ref 0, .ref 16, .ref 205, .int x3], [.ref 0, .int (M 0 (x3 + 1).toNatClampNeg), .ref 205, .int s0], hp nS M)) (am_cF_to (by with_unfolding_all rfl)) rfl (by with_unfolding_all rfl)).trans ?_
  show am_Wp _ 0 1059 _ _ _ _ = _
  refine (eq_step (e := (.iload_n 3, 1, 0, 0, 0)) (q := (1060, [.ref 0, .ref 16, .ref 205, .int x3], [.int x3, .ref 0, .int (M 0 (x3 + 1).toNatClampNeg), .ref 205, .int s0], hp nS M)) (am_cF_to (by with_unfolding_all rfl)) rfl (by with_unfolding_all rfl)).trans ?_
  show am_Wp _ 0 1060 _ _ _ _ = _
  refine (eq_step (e := (.iconst 2, 1, 0, 0, 0)) (q := (1061, [.ref 0, .ref 16, .ref 205, .int x3], [.int 2, .int x3, .ref 0, .int (M 0 (x3 + 1).toNatClampNeg), .ref 205, .int s0], hp nS M)) (am_cF_to (by with_unfolding_all rfl)) rfl (by with_unfolding_all rfl)).trans ?_
  show am_Wp _ 0 1061 _ _ _ _ = _
  refine (eq_step (e := (.iadd, 1, 0, 0, 0)) (q := (1062, [.ref 0, .ref 16, .ref 205, .int x3], [.int (x3 + 2), .ref 0, .int (M 0 (x3 + 1).toNatClampNeg), .ref 205, .int s0], hp nS M)) (am_cF_to (by with_unfolding_all rfl)) rfl (by with_unfolding_all rfl)).trans ?_
  show am_Wp _ 0 1062 _ _ _ _ = _
  refine (eq_ald (e := (.iaload, 1, 0, 0, 0)) (by with_unfolding_all rfl) rfl (n := nS) (by with_unfolding_all rfl) h2).trans ?_
  show am_Wp _ 0 1063 _ _ _ _ = _
  exact eq_call2 (e := (.invokevirtual 126, 3, 0, 259, 250)) (as := [.ref 205, .int (M 0 (x3 + 1).toNatClampNeg), .int (M 0 (x3 + 2).toNatClampNeg)]) (r := [.int s0]) (n := 3) (m := 6) (by with_unfolding_all rfl) rfl (by decide) (by with_unfolding_all rfl) (by decide) (by with_unfolding_all rfl) ⟨fun _ => am_rec_ok (c := 14) (by with_unfolding_all rfl) (by decide +kernel), fun z => by simp at z⟩
set_option maxRecDepth 20000 in
theorem b_0_1066 {d nS : Nat} {x3 s0 s1 : Int32} {M : am_M} {Q : Option Value → am_H → Prop} : am_Wp d 0 1066 [.ref 0, .ref 16, .ref 205, .int x3] [.int s1, .int s0] (hp nS M) Q = if s0 = s1 then am_Wp d 0 1410 [.ref 0, .ref 16, .ref 205, .int x3] [] (hp nS M) Q else am_Wp d 0 1069 [.ref 0, .ref 16, .ref 205, .int x3] [] (hp nS M) Q := by
  exact eq_cmp_eq (by with_unfolding_all rfl)
set_option maxRecDepth 20000 in
theorem b_0_1069 {d nS : Nat} {x3 : Int32} {M : am_M} {Q : Option Value → am_H → Prop} : am_Wp d 0 1069 [.ref 0, .ref 16, .ref 205, .int x3] [] (hp nS M) Q = Q (some (.int 0)) (hp nS M) := by
  refine (eq_step (e := (.iconst 0, 1, 0, 0, 0)) (q := (1070, [.ref 0, .ref 16, .ref 205, .int x3], [.int 0], hp nS M)) (am_cF_to (by with_unfolding_all rfl)) rfl (by with_unfolding_all rfl)).trans ?_
  show am_Wp _ 0 1070 _ _ _ _ = _
  exact eq_retI2 (e := (.ireturn, 1, 0, 0, 0)) (t := .boolean) (by with_unfolding_all rfl) rfl (by with_unfolding_all rfl) rfl
set_option maxRecDepth 20000 in
theorem b_0_1071 {d nS : Nat} {x3 : Int32} {M : am_M} {Q : Option Value → am_H → Prop} (h1 : vp_in (x3 + 1) nS) : am_Wp (d + 1) 0 1071 [.ref 0, .ref 16, .ref 205, .int x3] [] (hp nS M) Q = am_Wp d 155 0 [.ref 16, .int (M 0 (x3 + 1).toNatClampNeg)] [] (hp nS M) (fun v h1 => am_Wp (d + 1) 0 1080 [.ref 0, .ref 16, .ref 205, .int x3] (am_ans v []) h1 Q) := by
  refine (eq_step (e := (.aload_n 1, 1, 0, 0, 0)) (q := (1072, [.ref 0, .ref 16, .ref 205, .int x3], [.ref 16], hp nS M)) (am_cF_to (by with_unfolding_all rfl)) rfl (by with_unfolding_all rfl)).trans ?_
  show am_Wp _ 0 1072 _ _ _ _ = _
  refine (eq_step (e := (.aload_n 0, 1, 0, 0, 0)) (q := (1073, [.ref 0, .ref 16, .ref 205, .int x3], [.ref 0, .ref 16], hp nS M)) (am_cF_to (by with_unfolding_all rfl)) rfl (by with_unfolding_all rfl)).trans ?_
  show am_Wp _ 0 1073 _ _ _ _ = _
  refine (eq_step (e := (.iload_n 3, 1, 0, 0, 0)) (q := (1074, [.ref 0, .ref 16, .ref 205, .int x3], [.int x3, .ref 0, .ref 16], hp nS M)) (am_cF_to (by with_unfolding_all rfl)) rfl (by with_unfolding_all rfl)).trans ?_
  show am_Wp _ 0 1074 _ _ _ _ = _
  refine (eq_step (e := (.iconst 1, 1, 0, 0, 0)) (q := (1075, [.ref 0, .ref 16, .ref 205, .int x3], [.int 1, .int x3, .ref 0, .ref 16], hp nS M)) (am_cF_to (by with_unfolding_all rfl)) rfl (by with_unfolding_all rfl)).trans ?_
  show am_Wp _ 0 1075 _ _ _ _ = _
  refine (eq_step (e := (.iadd, 1, 0, 0, 0)) (q := (1076, [.ref 0, .ref 16, .ref 205, .int x3], [.int (x3 + 1), .ref 0, .ref 16], hp nS M)) (am_cF_to (by with_unfolding_all rfl)) rfl (by with_unfolding_all rfl)).trans ?_
  show am_Wp _ 0 1076 _ _ _ _ = _
  refine (eq_ald (e := (.iaload, 1, 0, 0, 0)) (by with_unfolding_all rfl) rfl (n := nS) (by with_unfolding_all rfl) h1).trans ?_
  show am_Wp _ 0 1077 _ _ _ _ = _
  exact eq_call2 (e := (.invokevirtual 127, 3, 0, 155, 251)) (as := [.ref 16, .int (M 0 (x3 + 1).toNatClampNeg)]) (r := []) (n := 2) (m := 2) (by with_unfolding_all rfl) rfl (by decide) (by with_unfolding_all rfl) (by decide) (by with_unfolding_all rfl) ⟨fun _ => am_rec_ok (c := 13) (by with_unfolding_all rfl) (by decide +kernel), fun z => by simp at z⟩
set_option maxRecDepth 20000 in
theorem b_0_1080 {d nS : Nat} {x3 s0 : Int32} {M : am_M} {Q : Option Value → am_H → Prop} (h1 : vp_in (x3 + 1) nS) : am_Wp (d + 1) 0 1080 [.ref 0, .ref 16, .ref 205, .int x3] [.int s0] (hp nS M) Q = am_Wp d 261 0 [.ref 205, .int (M 0 (x3 + 1).toNatClampNeg), .retAddr 0, .retAddr 0, .retAddr 0, .retAddr 0, .retAddr 0, .retAddr 0, .retAddr 0, .retAddr 0] [] (hp nS M) (fun v h1 => am_Wp (d + 1) 0 1089 [.ref 0, .ref 16, .ref 205, .int x3] (am_ans v [.int s0]) h1 Q) := by
  refine (eq_step (e := (.aload_n 2, 1, 0, 0, 0)) (q := (1081, [.ref 0, .ref 16, .ref 205, .int x3], [.ref 205, .int s0], hp nS M)) (am_cF_to (by with_unfolding_all rfl)) rfl (by with_unfolding_all rfl)).trans ?_
  show am_Wp _ 0 1081 _ _ _ _ = _
  refine (eq_step (e := (.aload_n 0, 1, 0, 0, 0)) (q := (1082, [.ref 0, .ref 16, .ref 205, .int x3], [.ref 0, .ref 205, .int s0], hp nS M)) (am_cF_to (by with_unfolding_all rfl)) rfl (by with_unfolding_all rfl)).trans ?_
  show am_Wp _ 0 1082 _ _ _ _ = _
  refine (eq_step (e := (.iload_n 3, 1, 0, 0, 0)) (q := (1083, [.ref 0, .ref 16, .ref 205, .int x3], [.int x3, .ref 0, .ref 205, .int s0], hp nS M)) (am_cF_to (by with_unfolding_all rfl)) rfl (by with_unfolding_all rfl)).trans ?_
  show am_Wp _ 0 1083 _ _ _ _ = _
  refine (eq_step (e := (.iconst 1, 1, 0, 0, 0)) (q := (1084, [.ref 0, .ref 16, .ref 205, .int x3], [.int 1, .int x3, .ref 0, .ref 205, .int s0], hp nS M)) (am_cF_to (by with_unfolding_all rfl)) rfl (by with_unfolding_all rfl)).trans ?_
  show am_Wp _ 0 1084 _ _ _ _ = _
  refine (eq_step (e := (.iadd, 1, 0, 0, 0)) (q := (1085, [.ref 0, .ref 16, .ref 205, .int x3], [.int (x3 + 1), .ref 0, .ref 205, .int s0], hp nS M)) (am_cF_to (by with_unfolding_all rfl)) rfl (by with_unfolding_all rfl)).trans ?_
  show am_Wp _ 0 1085 _ _ _ _ = _
  refine (eq_ald (e := (.iaload, 1, 0, 0, 0)) (by with_unfolding_all rfl) rfl (n := nS) (by with_unfolding_all rfl) h1).trans ?_
  show am_Wp _ 0 1086 _ _ _ _ = _
  exact eq_call2 (e := (.invokevirtual 130, 3, 0, 261, 252)) (as := [.ref 205, .int (M 0 (x3 + 1).toNatClampNeg)]) (r := [.int s0]) (n := 2) (m := 10) (by with_unfolding_all rfl) rfl (by decide) (by with_unfolding_all rfl) (by decide) (by with_unfolding_all rfl) ⟨fun _ => am_rec_ok (c := 14) (by with_unfolding_all rfl) (by decide +kernel), fun z => by simp at z⟩
set_option maxRecDepth 20000 in
theorem b_0_1089 {d nS : Nat} {x3 s0 s1 : Int32} {M : am_M} {Q : Option Value → am_H → Prop} : am_Wp d 0 1089 [.ref 0, .ref 16, .ref 205, .int x3] [.int s1, .int s0] (hp nS M) Q = if s0 = s1 then am_Wp d 0 1410 [.ref 0, .ref 16, .ref 205, .int x3] [] (hp nS M) Q else am_Wp d 0 1092 [.ref 0, .ref 16, .ref 205, .int x3] [] (hp nS M) Q := by
  exact eq_cmp_eq (by with_unfolding_all rfl)
set_option maxRecDepth 20000 in
theorem b_0_1092 {d nS : Nat} {x3 : Int32} {M : am_M} {Q : Option Value → am_H → Prop} : am_Wp d 0 1092 [.ref 0, .ref 16, .ref 205, .int x3] [] (hp nS M) Q = Q (some (.int 0)) (hp nS M) := by
  refine (eq_step (e := (.iconst 0, 1, 0, 0, 0)) (q := (1093, [.ref 0, .ref 16, .ref 205, .int x3], [.int 0], hp nS M)) (am_cF_to (by with_unfolding_all rfl)) rfl (by with_unfolding_all rfl)).trans ?_
  show am_Wp _ 0 1093 _ _ _ _ = _
  exact eq_retI2 (e := (.ireturn, 1, 0, 0, 0)) (t := .boolean) (by with_unfolding_all rfl) rfl (by with_unfolding_all rfl) rfl
set_option maxRecDepth 20000 in
theorem b_0_1094 {d nS : Nat} {x3 : Int32} {M : am_M} {Q : Option Value → am_H → Prop} (h1 : vp_in (x3 + 1) nS) (h2 : vp_in (x3 + 2) nS) : am_Wp (d + 1) 0 1094 [.ref 0, .ref 16, .ref 205, .int x3] [] (hp nS M) Q = am_Wp d 156 0 [.ref 16, .int (M 0 (x3 + 1).toNatClampNeg), .int (M 0 (x3 + 2).toNatClampNeg)] [] (hp nS M) (fun v h1 => am_Wp (d + 1) 0 1108 [.ref 0, .ref 16, .ref 205, .int x3] (am_ans v []) h1 Q) := by
  refine (eq_step (e := (.aload_n 1, 1, 0, 0, 0)) (q := (1095, [.ref 0, .ref 16, .ref 205, .int x3], [.ref 16], hp nS M)) (am_cF_to (by with_unfolding_all rfl)) rfl (by with_unfolding_all rfl)).trans ?_
  show am_Wp _ 0 1095 _ _ _ _ = _
  refine (eq_step (e := (.aload_n 0, 1, 0, 0, 0)) (q := (1096, [.ref 0, .ref 16, .ref 205, .int x3], [.ref 0, .ref 16], hp nS M)) (am_cF_to (by with_unfolding_all rfl)) rfl (by with_unfolding_all rfl)).trans ?_
  show am_Wp _ 0 1096 _ _ _ _ = _
  refine (eq_step (e := (.iload_n 3, 1, 0, 0, 0)) (q := (1097, [.ref 0, .ref 16, .ref 205, .int x3], [.int x3, .ref 0, .ref 16], hp nS M)) (am_cF_to (by with_unfolding_all rfl)) rfl (by with_unfolding_all rfl)).trans ?_
  show am_Wp _ 0 1097 _ _ _ _ = _
  refine (eq_step (e := (.iconst 1, 1, 0, 0, 0)) (q := (1098, [.ref 0, .ref 16, .ref 205, .int x3], [.int 1, .int x3, .ref 0, .ref 16], hp nS M)) (am_cF_to (by with_unfolding_all rfl)) rfl (by with_unfolding_all rfl)).trans ?_
  show am_Wp _ 0 1098 _ _ _ _ = _
  refine (eq_step (e := (.iadd, 1, 0, 0, 0)) (q := (1099, [.ref 0, .ref 16, .ref 205, .int x3], [.int (x3 + 1), .ref 0, .ref 16], hp nS M)) (am_cF_to (by with_unfolding_all rfl)) rfl (by with_unfolding_all rfl)).trans ?_
  show am_Wp _ 0 1099 _ _ _ _ = _
  refine (eq_ald (e := (.iaload, 1, 0, 0, 0)) (by with_unfolding_all rfl) rfl (n := nS) (by with_unfolding_all rfl) h1).trans ?_
  show am_Wp _ 0 1100 _ _ _ _ = _
  refine (eq_step (e := (.aload_n 0, 1, 0, 0, 0)) (q := (1101, [.ref 0, .ref 16, .ref 205, .int x3], [.ref 0, .int (M 0 (x3 + 1).toNatClampNeg), .ref 16], hp nS M)) (am_cF_to (by with_unfolding_all rfl)) rfl (by with_unfolding_all rfl)).trans ?_
  show am_Wp _ 0 1101 _ _ _ _ = _
  refine (eq_step (e := (.iload_n 3, 1, 0, 0, 0)) (q := (1102, [.ref 0, .ref 16, .ref 205, .int x3], [.int x3, .ref 0, .int (M 0 (x3 + 1).toNatClampNeg), .ref 16], hp nS M)) (am_cF_to (by with_unfolding_all rfl)) rfl (by with_unfolding_all rfl)).trans ?_
  show am_Wp _ 0 1102 _ _ _ _ = _
  refine (eq_step (e := (.iconst 2, 1, 0, 0, 0)) (q := (1103, [.ref 0, .ref 16, .ref 205, .int x3], [.int 2, .int x3, .ref 0, .int (M 0 (x3 + 1).toNatClampNeg), .ref 16], hp nS M)) (am_cF_to (by with_unfolding_all rfl)) rfl (by with_unfolding_all rfl)).trans ?_
  show am_Wp _ 0 1103 _ _ _ _ = _
  refine (eq_step (e := (.iadd, 1, 0, 0, 0)) (q := (1104, [.ref 0, .ref 16, .ref 205, .int x3], [.int (x3 + 2), .ref 0, .int (M 0 (x3 + 1).toNatClampNeg), .ref 16], hp nS M)) (am_cF_to (by with_unfolding_all rfl)) rfl (by with_unfolding_all rfl)).trans ?_
  show am_Wp _ 0 1104 _ _ _ _ = _
  refine (eq_ald (e := (.iaload, 1, 0, 0, 0)) (by with_unfolding_all rfl) rfl (n := nS) (by with_unfolding_all rfl) h2).trans ?_
  show am_Wp _ 0 1105 _ _ _ _ = _
  exact eq_call2 (e := (.invokevirtual 131, 3, 0, 156, 253)) (as := [.ref 16, .int (M 0 (x3 + 1).toNatClampNeg), .int (M 0 (x3 + 2).toNatClampNeg)]) (r := []) (n := 3) (m := 3) (by with_unfolding_all rfl) rfl (by decide) (by with_unfolding_all rfl) (by decide) (by with_unfolding_all rfl) ⟨fun _ => am_rec_ok (c := 13) (by with_unfolding_all rfl) (by decide +kernel), fun z => by simp at z⟩
set_option maxRecDepth 20000 in
theorem b_0_1108 {d nS : Nat} {x3 s0 : Int32} {M : am_M} {Q : Option Value → am_H → Prop} (h1 : vp_in (x3 + 1) nS) (h2 : vp_in (x3 + 2) nS) : am_Wp (d + 1) 0 1108 [.ref 0, .ref 16, .ref 205, .int x3] [.int s0] (hp nS M) Q = am_Wp d 278 0 [.ref 205, .int (M 0 (x3 + 1).toNatClampNeg), .int (M 0 (x3 + 2).toNatClampNeg), .retAddr 0, .retAddr 0] [] (hp nS M) (fun v h1 => am_Wp (d + 1) 0 1122 [.ref 0, .ref 16, .ref 205, .int x3] (am_ans v [.int s0]) h1 Q) := by
  refine (eq_step (e := (.aload_n 2, 1, 0, 0, 0)) (q := (1109, [.ref 0, .ref 16, .ref 205, .int x3], [.ref 205, .int s0], hp nS M)) (am_cF_to (by with_unfolding_all rfl)) rfl (by with_unfolding_all rfl)).trans ?_
  show am_Wp _ 0 1109 _ _ _ _ = _
  refine (eq_step (e := (.aload_n 0, 1, 0, 0, 0)) (q := (1110, [.ref 0, .ref 16, .ref 205, .int x3], [.ref 0, .ref 205, .int s0], hp nS M)) (am_cF_to (by with_unfolding_all rfl)) rfl (by with_unfolding_all rfl)).trans ?_
  show am_Wp _ 0 1110 _ _ _ _ = _
  refine (eq_step (e := (.iload_n 3, 1, 0, 0, 0)) (q := (1111, [.ref 0, .ref 16, .ref 205, .int x3], [.int x3, .ref 0, .ref 205, .int s0], hp nS M)) (am_cF_to (by with_unfolding_all rfl)) rfl (by with_unfolding_all rfl)).trans ?_
  show am_Wp _ 0 1111 _ _ _ _ = _
  refine (eq_step (e := (.iconst 1, 1, 0, 0, 0)) (q := (1112, [.ref 0, .ref 16, .ref 205, .int x3], [.int 1, .int x3, .ref 0, .ref 205, .int s0], hp nS M)) (am_cF_to (by with_unfolding_all rfl)) rfl (by with_unfolding_all rfl)).trans ?_
  show am_Wp _ 0 1112 _ _ _ _ = _
  refine (eq_step (e := (.iadd, 1, 0, 0, 0)) (q := (1113, [.ref 0, .ref 16, .ref 205, .int x3], [.int (x3 + 1), .ref 0, .ref 205, .int s0], hp nS M)) (am_cF_to (by with_unfolding_all rfl)) rfl (by with_unfolding_all rfl)).trans ?_
  show am_Wp _ 0 1113 _ _ _ _ = _
  refine (eq_ald (e := (.iaload, 1, 0, 0, 0)) (by with_unfolding_all rfl) rfl (n := nS) (by with_unfolding_all rfl) h1).trans ?_
  show am_Wp _ 0 1114 _ _ _ _ = _
  refine (eq_step (e := (.aload_n 0, 1, 0, 0, 0)) (q := (1115, [.ref 0, .ref 16, .ref 205, .int x3], [.ref 0, .int (M 0 (x3 + 1).toNatClampNeg), .ref 205, .int s0], hp nS M)) (am_cF_to (by with_unfolding_all rfl)) rfl (by with_unfolding_all rfl)).trans ?_
  show am_Wp _ 0 1115 _ _ _ _ = _
  refine (eq_step (e := (.iload_n 3, 1, 0, 0, 0)) (q := (1116, [.ref 0, .ref 16, .ref 205, .int x3], [.int x3, .ref 0, .int (M 0 (x3 + 1).toNatClampNeg), .ref 205, .int s0], hp nS M)) (am_cF_to (by with_unfolding_all rfl)) rfl (by with_unfolding_all rfl)).trans ?_
  show am_Wp _ 0 1116 _ _ _ _ = _
  refine (eq_step (e := (.iconst 2, 1, 0, 0, 0)) (q := (1117, [.ref 0, .ref 16, .ref 205, .int x3], [.int 2, .int x3, .ref 0, .int (M 0 (x3 + 1).toNatClampNeg), .ref 205, .int s0], hp nS M)) (am_cF_to (by with_unfolding_all rfl)) rfl (by with_unfolding_all rfl)).trans ?_
  show am_Wp _ 0 1117 _ _ _ _ = _
  refine (eq_step (e := (.iadd, 1, 0, 0, 0)) (q := (1118, [.ref 0, .ref 16, .ref 205, .int x3], [.int (x3 + 2), .ref 0, .int (M 0 (x3 + 1).toNatClampNeg), .ref 205, .int s0], hp nS M)) (am_cF_to (by with_unfolding_all rfl)) rfl (by with_unfolding_all rfl)).trans ?_
  show am_Wp _ 0 1118 _ _ _ _ = _
  refine (eq_ald (e := (.iaload, 1, 0, 0, 0)) (by with_unfolding_all rfl) rfl (n := nS) (by with_unfolding_all rfl) h2).trans ?_
  show am_Wp _ 0 1119 _ _ _ _ = _
  exact eq_call2 (e := (.invokevirtual 134, 3, 0, 278, 254)) (as := [.ref 205, .int (M 0 (x3 + 1).toNatClampNeg), .int (M 0 (x3 + 2).toNatClampNeg)]) (r := [.int s0]) (n := 3) (m := 5) (by with_unfolding_all rfl) rfl (by decide) (by with_unfolding_all rfl) (by decide) (by with_unfolding_all rfl) ⟨fun _ => am_rec_ok (c := 14) (by with_unfolding_all rfl) (by decide +kernel), fun z => by simp at z⟩
set_option maxRecDepth 20000 in
theorem b_0_1122 {d nS : Nat} {x3 s0 s1 : Int32} {M : am_M} {Q : Option Value → am_H → Prop} : am_Wp d 0 1122 [.ref 0, .ref 16, .ref 205, .int x3] [.int s1, .int s0] (hp nS M) Q = if s0 = s1 then am_Wp d 0 1410 [.ref 0, .ref 16, .ref 205, .int x3] [] (hp nS M) Q else am_Wp d 0 1125 [.ref 0, .ref 16, .ref 205, .int x3] [] (hp nS M) Q := by
  exact eq_cmp_eq (by with_unfolding_all rfl)
set_option maxRecDepth 20000 in
theorem b_0_1125 {d nS : Nat} {x3 : Int32} {M : am_M} {Q : Option Value → am_H → Prop} : am_Wp d 0 1125 [.ref 0, .ref 16, .ref 205, .int x3] [] (hp nS M) Q = Q (some (.int 0)) (hp nS M) := by
  refine (eq_step (e := (.iconst 0, 1, 0, 0, 0)) (q := (1126, [.ref 0, .ref 16, .ref 205, .int x3], [.int 0], hp nS M)) (am_cF_to (by with_unfolding_all rfl)) rfl (by with_unfolding_all rfl)).trans ?_
  show am_Wp _ 0 1126 _ _ _ _ = _
  exact eq_retI2 (e := (.ireturn, 1, 0, 0, 0)) (t := .boolean) (by with_unfolding_all rfl) rfl (by with_unfolding_all rfl) rfl
set_option maxRecDepth 20000 in
theorem b_0_1127 {d nS : Nat} {x3 : Int32} {M : am_M} {Q : Option Value → am_H → Prop} (h1 : vp_in (x3 + 1) nS) (h2 : vp_in (x3 + 2) nS) : am_Wp (d + 1) 0 1127 [.ref 0, .ref 16, .ref 205, .int x3] [] (hp nS M) Q = am_Wp d 157 0 [.ref 16, .int (M 0 (x3 + 1).toNatClampNeg), .int (M 0 (x3 + 2).toNatClampNeg)] [] (hp nS M) (fun v h1 => am_Wp (d + 1) 0 1141 [.ref 0, .ref 16, .ref 205, .int x3] (am_ans v []) h1 Q) := by
  refine (eq_step (e := (.aload_n 1, 1, 0, 0, 0)) (q := (1128, [.ref 0, .ref 16, .ref 205, .int x3], [.ref 16], hp nS M)) (am_cF_to (by with_unfolding_all rfl)) rfl (by with_unfolding_all rfl)).trans ?_
  show am_Wp _ 0 1128 _ _ _ _ = _
  refine (eq_step (e := (.aload_n 0, 1, 0, 0, 0)) (q := (1129, [.ref 0, .ref 16, .ref 205, .int x3], [.ref 0, .ref 16], hp nS M)) (am_cF_to (by with_unfolding_all rfl)) rfl (by with_unfolding_all rfl)).trans ?_
  show am_Wp _ 0 1129 _ _ _ _ = _
  refine (eq_step (e := (.iload_n 3, 1, 0, 0, 0)) (q := (1130, [.ref 0, .ref 16, .ref 205, .int x3], [.int x3, .ref 0, .ref 16], hp nS M)) (am_cF_to (by with_unfolding_all rfl)) rfl (by with_unfolding_all rfl)).trans ?_
  show am_Wp _ 0 1130 _ _ _ _ = _
  refine (eq_step (e := (.iconst 1, 1, 0, 0, 0)) (q := (1131, [.ref 0, .ref 16, .ref 205, .int x3], [.int 1, .int x3, .ref 0, .ref 16], hp nS M)) (am_cF_to (by with_unfolding_all rfl)) rfl (by with_unfolding_all rfl)).trans ?_
  show am_Wp _ 0 1131 _ _ _ _ = _
  refine (eq_step (e := (.iadd, 1, 0, 0, 0)) (q := (1132, [.ref 0, .ref 16, .ref 205, .int x3], [.int (x3 + 1), .ref 0, .ref 16], hp nS M)) (am_cF_to (by with_unfolding_all rfl)) rfl (by with_unfolding_all rfl)).trans ?_
  show am_Wp _ 0 1132 _ _ _ _ = _
  refine (eq_ald (e := (.iaload, 1, 0, 0, 0)) (by with_unfolding_all rfl) rfl (n := nS) (by with_unfolding_all rfl) h1).trans ?_
  show am_Wp _ 0 1133 _ _ _ _ = _
  refine (eq_step (e := (.aload_n 0, 1, 0, 0, 0)) (q := (1134, [.ref 0, .ref 16, .ref 205, .int x3], [.ref 0, .int (M 0 (x3 + 1).toNatClampNeg), .ref 16], hp nS M)) (am_cF_to (by with_unfolding_all rfl)) rfl (by with_unfolding_all rfl)).trans ?_
  show am_Wp _ 0 1134 _ _ _ _ = _
  refine (eq_step (e := (.iload_n 3, 1, 0, 0, 0)) (q := (1135, [.ref 0, .ref 16, .ref 205, .int x3], [.int x3, .ref 0, .int (M 0 (x3 + 1).toNatClampNeg), .ref 16], hp nS M)) (am_cF_to (by with_unfolding_all rfl)) rfl (by with_unfolding_all rfl)).trans ?_
  show am_Wp _ 0 1135 _ _ _ _ = _
  refine (eq_step (e := (.iconst 2, 1, 0, 0, 0)) (q := (1136, [.ref 0, .ref 16, .ref 205, .int x3], [.int 2, .int x3, .ref 0, .int (M 0 (x3 + 1).toNatClampNeg), .ref 16], hp nS M)) (am_cF_to (by with_unfolding_all rfl)) rfl (by with_unfolding_all rfl)).trans ?_
  show am_Wp _ 0 1136 _ _ _ _ = _
  refine (eq_step (e := (.iadd, 1, 0, 0, 0)) (q := (1137, [.ref 0, .ref 16, .ref 205, .int x3], [.int (x3 + 2), .ref 0, .int (M 0 (x3 + 1).toNatClampNeg), .ref 16], hp nS M)) (am_cF_to (by with_unfolding_all rfl)) rfl (by with_unfolding_all rfl)).trans ?_
  show am_Wp _ 0 1137 _ _ _ _ = _
  refine (eq_ald (e := (.iaload, 1, 0, 0, 0)) (by with_unfolding_all rfl) rfl (n := nS) (by with_unfolding_all rfl) h2).trans ?_
  show am_Wp _ 0 1138 _ _ _ _ = _
  exact eq_call2 (e := (.invokevirtual 135, 3, 0, 157, 255)) (as := [.ref 16, .int (M 0 (x3 + 1).toNatClampNeg), .int (M 0 (x3 + 2).toNatClampNeg)]) (r := []) (n := 3) (m := 3) (by with_unfolding_all rfl) rfl (by decide) (by with_unfolding_all rfl) (by decide) (by with_unfolding_all rfl) ⟨fun _ => am_rec_ok (c := 13) (by with_unfolding_all rfl) (by decide +kernel), fun z => by simp at z⟩
set_option maxRecDepth 20000 in
theorem b_0_1141 {d nS : Nat} {x3 s0 : Int32} {M : am_M} {Q : Option Value → am_H → Prop} (h1 : vp_in (x3 + 1) nS) (h2 : vp_in (x3 + 2) nS) : am_Wp (d + 1) 0 1141 [.ref 0, .ref 16, .ref 205, .int x3] [.int s0] (hp nS M) Q = am_Wp d 279 0 [.ref 205, .int (M 0 (x3 + 1).toNatClampNeg), .int (M 0 (x3 + 2).toNatClampNeg), .retAddr 0] [] (hp nS M) (fun v h1 => am_Wp (d + 1) 0 1155 [.ref 0, .ref 16, .ref 205, .int x3] (am_ans v [.int s0]) h1 Q) := by
  refine (eq_step (e := (.aload_n 2, 1, 0, 0, 0)) (q := (1142, [.ref 0, .ref 16, .ref 205, .int x3], [.ref 205, .int s0], hp nS M)) (am_cF_to (by with_unfolding_all rfl)) rfl (by with_unfolding_all rfl)).trans ?_
  show am_Wp _ 0 1142 _ _ _ _ = _
  refine (eq_step (e := (.aload_n 0, 1, 0, 0, 0)) (q := (1143, [.ref 0, .ref 16, .ref 205, .int x3], [.ref 0, .ref 205, .int s0], hp nS M)) (am_cF_to (by with_unfolding_all rfl)) rfl (by with_unfolding_all rfl)).trans ?_
  show am_Wp _ 0 1143 _ _ _ _ = _
  refine (eq_step (e := (.iload_n 3, 1, 0, 0, 0)) (q := (1144, [.ref 0, .ref 16, .ref 205, .int x3], [.int x3, .ref 0, .ref 205, .int s0], hp nS M)) (am_cF_to (by with_unfolding_all rfl)) rfl (by with_unfolding_all rfl)).trans ?_
  show am_Wp _ 0 1144 _ _ _ _ = _
  refine (eq_step (e := (.iconst 1, 1, 0, 0, 0)) (q := (1145, [.ref 0, .ref 16, .ref 205, .int x3], [.int 1, .int x3, .ref 0, .ref 205, .int s0], hp nS M)) (am_cF_to (by with_unfolding_all rfl)) rfl (by with_unfolding_all rfl)).trans ?_
  show am_Wp _ 0 1145 _ _ _ _ = _
  refine (eq_step (e := (.iadd, 1, 0, 0, 0)) (q := (1146, [.ref 0, .ref 16, .ref 205, .int x3], [.int (x3 + 1), .ref 0, .ref 205, .int s0], hp nS M)) (am_cF_to (by with_unfolding_all rfl)) rfl (by with_unfolding_all rfl)).trans ?_
  show am_Wp _ 0 1146 _ _ _ _ = _
  refine (eq_ald (e := (.iaload, 1, 0, 0, 0)) (by with_unfolding_all rfl) rfl (n := nS) (by with_unfolding_all rfl) h1).trans ?_
  show am_Wp _ 0 1147 _ _ _ _ = _
  refine (eq_step (e := (.aload_n 0, 1, 0, 0, 0)) (q := (1148, [.ref 0, .ref 16, .ref 205, .int x3], [.ref 0, .int (M 0 (x3 + 1).toNatClampNeg), .ref 205, .int s0], hp nS M)) (am_cF_to (by with_unfolding_all rfl)) rfl (by with_unfolding_all rfl)).trans ?_
  show am_Wp _ 0 1148 _ _ _ _ = _
  refine (eq_step (e := (.iload_n 3, 1, 0, 0, 0)) (q := (1149, [.ref 0, .ref 16, .ref 205, .int x3], [.int x3, .ref 0, .int (M 0 (x3 + 1).toNatClampNeg), .ref 205, .int s0], hp nS M)) (am_cF_to (by with_unfolding_all rfl)) rfl (by with_unfolding_all rfl)).trans ?_
  show am_Wp _ 0 1149 _ _ _ _ = _
  refine (eq_step (e := (.iconst 2, 1, 0, 0, 0)) (q := (1150, [.ref 0, .ref 16, .ref 205, .int x3], [.int 2, .int x3, .ref 0, .int (M 0 (x3 + 1).toNatClampNeg), .ref 205, .int s0], hp nS M)) (am_cF_to (by with_unfolding_all rfl)) rfl (by with_unfolding_all rfl)).trans ?_
  show am_Wp _ 0 1150 _ _ _ _ = _
  refine (eq_step (e := (.iadd, 1, 0, 0, 0)) (q := (1151, [.ref 0, .ref 16, .ref 205, .int x3], [.int (x3 + 2), .ref 0, .int (M 0 (x3 + 1).toNatClampNeg), .ref 205, .int s0], hp nS M)) (am_cF_to (by with_unfolding_all rfl)) rfl (by with_unfolding_all rfl)).trans ?_
  show am_Wp _ 0 1151 _ _ _ _ = _
  refine (eq_ald (e := (.iaload, 1, 0, 0, 0)) (by with_unfolding_all rfl) rfl (n := nS) (by with_unfolding_all rfl) h2).trans ?_
  show am_Wp _ 0 1152 _ _ _ _ = _
  exact eq_call2 (e := (.invokevirtual 138, 3, 0, 279, 256)) (as := [.ref 205, .int (M 0 (x3 + 1).toNatClampNeg), .int (M 0 (x3 + 2).toNatClampNeg)]) (r := [.int s0]) (n := 3) (m := 4) (by with_unfolding_all rfl) rfl (by decide) (by with_unfolding_all rfl) (by decide) (by with_unfolding_all rfl) ⟨fun _ => am_rec_ok (c := 14) (by with_unfolding_all rfl) (by decide +kernel), fun z => by simp at z⟩
set_option maxRecDepth 20000 in
theorem b_0_1155 {d nS : Nat} {x3 s0 s1 : Int32} {M : am_M} {Q : Option Value → am_H → Prop} : am_Wp d 0 1155 [.ref 0, .ref 16, .ref 205, .int x3] [.int s1, .int s0] (hp nS M) Q = if s0 = s1 then am_Wp d 0 1410 [.ref 0, .ref 16, .ref 205, .int x3] [] (hp nS M) Q else am_Wp d 0 1158 [.ref 0, .ref 16, .ref 205, .int x3] [] (hp nS M) Q := by
  exact eq_cmp_eq (by with_unfolding_all rfl)
set_option maxRecDepth 20000 in
theorem b_0_1158 {d nS : Nat} {x3 : Int32} {M : am_M} {Q : Option Value → am_H → Prop} : am_Wp d 0 1158 [.ref 0, .ref 16, .ref 205, .int x3] [] (hp nS M) Q = Q (some (.int 0)) (hp nS M) := by
  refine (eq_step (e := (.iconst 0, 1, 0, 0, 0)) (q := (1159, [.ref 0, .ref 16, .ref 205, .int x3], [.int 0], hp nS M)) (am_cF_to (by with_unfolding_all rfl)) rfl (by with_unfolding_all rfl)).trans ?_
  show am_Wp _ 0 1159 _ _ _ _ = _
  exact eq_retI2 (e := (.ireturn, 1, 0, 0, 0)) (t := .boolean) (by with_unfolding_all rfl) rfl (by with_unfolding_all rfl) rfl
set_option maxRecDepth 20000 in
theorem b_0_1160 {d nS : Nat} {x3 : Int32} {M : am_M} {Q : Option Value → am_H → Prop} (h1 : vp_in (x3 + 1) nS) (h2 : vp_in (x3 + 2) nS) : am_Wp (d + 1) 0 1160 [.ref 0, .ref 16, .ref 205, .int x3] [] (hp nS M) Q = am_Wp d 158 0 [.ref 16, .int (M 0 (x3 + 1).toNatClampNeg), .int (M 0 (x3 + 2).toNatClampNeg)] [] (hp nS M) (fun v h1 => am_Wp (d + 1) 0 1174 [.ref 0, .ref 16, .ref 205, .int x3] (am_ans v []) h1 Q) := by
  refine (eq_step (e := (.aload_n 1, 1, 0, 0, 0)) (q := (1161, [.ref 0, .ref 16, .ref 205, .int x3], [.ref 16], hp nS M)) (am_cF_to (by with_unfolding_all rfl)) rfl (by with_unfolding_all rfl)).trans ?_
  show am_Wp _ 0 1161 _ _ _ _ = _
  refine (eq_step (e := (.aload_n 0, 1, 0, 0, 0)) (q := (1162, [.ref 0, .ref 16, .ref 205, .int x3], [.ref 0, .ref 16], hp nS M)) (am_cF_to (by with_unfolding_all rfl)) rfl (by with_unfolding_all rfl)).trans ?_
  show am_Wp _ 0 1162 _ _ _ _ = _
  refine (eq_step (e := (.iload_n 3, 1, 0, 0, 0)) (q := (1163, [.ref 0, .ref 16, .ref 205, .int x3], [.int x3, .ref 0, .ref 16], hp nS M)) (am_cF_to (by with_unfolding_all rfl)) rfl (by with_unfolding_all rfl)).trans ?_
  show am_Wp _ 0 1163 _ _ _ _ = _
  refine (eq_step (e := (.iconst 1, 1, 0, 0, 0)) (q := (1164, [.ref 0, .ref 16, .ref 205, .int x3], [.int 1, .int x3, .ref 0, .ref 16], hp nS M)) (am_cF_to (by with_unfolding_all rfl)) rfl (by with_unfolding_all rfl)).trans ?_
  show am_Wp _ 0 1164 _ _ _ _ = _
  refine (eq_step (e := (.iadd, 1, 0, 0, 0)) (q := (1165, [.ref 0, .ref 16, .ref 205, .int x3], [.int (x3 + 1), .ref 0, .ref 16], hp nS M)) (am_cF_to (by with_unfolding_all rfl)) rfl (by with_unfolding_all rfl)).trans ?_
  show am_Wp _ 0 1165 _ _ _ _ = _
  refine (eq_ald (e := (.iaload, 1, 0, 0, 0)) (by with_unfolding_all rfl) rfl (n := nS) (by with_unfolding_all rfl) h1).trans ?_
  show am_Wp _ 0 1166 _ _ _ _ = _
  refine (eq_step (e := (.aload_n 0, 1, 0, 0, 0)) (q := (1167, [.ref 0, .ref 16, .ref 205, .int x3], [.ref 0, .int (M 0 (x3 + 1).toNatClampNeg), .ref 16], hp nS M)) (am_cF_to (by with_unfolding_all rfl)) rfl (by with_unfolding_all rfl)).trans ?_
  show am_Wp _ 0 1167 _ _ _ _ = _
  refine (eq_step (e := (.iload_n 3, 1, 0, 0, 0)) (q := (1168, [.ref 0, .ref 16, .ref 205, .int x3], [.int x3, .ref 0, .int (M 0 (x3 + 1).toNatClampNeg), .ref 16], hp nS M)) (am_cF_to (by with_unfolding_all rfl)) rfl (by with_unfolding_all rfl)).trans ?_
  show am_Wp _ 0 1168 _ _ _ _ = _
  refine (eq_step (e := (.iconst 2, 1, 0, 0, 0)) (q := (1169, [.ref 0, .ref 16, .ref 205, .int x3], [.int 2, .int x3, .ref 0, .int (M 0 (x3 + 1).toNatClampNeg), .ref 16], hp nS M)) (am_cF_to (by with_unfolding_all rfl)) rfl (by with_unfolding_all rfl)).trans ?_
  show am_Wp _ 0 1169 _ _ _ _ = _
  refine (eq_step (e := (.iadd, 1, 0, 0, 0)) (q := (1170, [.ref 0, .ref 16, .ref 205, .int x3], [.int (x3 + 2), .ref 0, .int (M 0 (x3 + 1).toNatClampNeg), .ref 16], hp nS M)) (am_cF_to (by with_unfolding_all rfl)) rfl (by with_unfolding_all rfl)).trans ?_
  show am_Wp _ 0 1170 _ _ _ _ = _
  refine (eq_ald (e := (.iaload, 1, 0, 0, 0)) (by with_unfolding_all rfl) rfl (n := nS) (by with_unfolding_all rfl) h2).trans ?_
  show am_Wp _ 0 1171 _ _ _ _ = _
  exact eq_call2 (e := (.invokevirtual 139, 3, 0, 158, 257)) (as := [.ref 16, .int (M 0 (x3 + 1).toNatClampNeg), .int (M 0 (x3 + 2).toNatClampNeg)]) (r := []) (n := 3) (m := 3) (by with_unfolding_all rfl) rfl (by decide) (by with_unfolding_all rfl) (by decide) (by with_unfolding_all rfl) ⟨fun _ => am_rec_ok (c := 13) (by with_unfolding_all rfl) (by decide +kernel), fun z => by simp at z⟩
set_option maxRecDepth 20000 in
theorem b_0_1174 {d nS : Nat} {x3 s0 : Int32} {M : am_M} {Q : Option Value → am_H → Prop} (h1 : vp_in (x3 + 1) nS) (h2 : vp_in (x3 + 2) nS) : am_Wp (d + 1) 0 1174 [.ref 0, .ref 16, .ref 205, .int x3] [.int s0] (hp nS M) Q = am_Wp d 280 0 [.ref 205, .int (M 0 (x3 + 1).toNatClampNeg), .int (M 0 (x3 + 2).toNatClampNeg), .retAddr 0, .retAddr 0, .retAddr 0] [] (hp nS M) (fun v h1 => am_Wp (d + 1) 0 1188 [.ref 0, .ref 16, .ref 205, .int x3] (am_ans v [.int s0]) h1 Q) := by
  refine (eq_step (e := (.aload_n 2, 1, 0, 0, 0)) (q := (1175, [.ref 0, .ref 16, .ref 205, .int x3], [.ref 205, .int s0], hp nS M)) (am_cF_to (by with_unfolding_all rfl)) rfl (by with_unfolding_all rfl)).trans ?_
  show am_Wp _ 0 1175 _ _ _ _ = _
  refine (eq_step (e := (.aload_n 0, 1, 0, 0, 0)) (q := (1176, [.ref 0, .ref 16, .ref 205, .int x3], [.ref 0, .ref 205, .int s0], hp nS M)) (am_cF_to (by with_unfolding_all rfl)) rfl (by with_unfolding_all rfl)).trans ?_
  show am_Wp _ 0 1176 _ _ _ _ = _
  refine (eq_step (e := (.iload_n 3, 1, 0, 0, 0)) (q := (1177, [.ref 0, .ref 16, .ref 205, .int x3], [.int x3, .ref 0, .ref 205, .int s0], hp nS M)) (am_cF_to (by with_unfolding_all rfl)) rfl (by with_unfolding_all rfl)).trans ?_
  show am_Wp _ 0 1177 _ _ _ _ = _
  refine (eq_step (e := (.iconst 1, 1, 0, 0, 0)) (q := (1178, [.ref 0, .ref 16, .ref 205, .int x3], [.int 1, .int x3, .ref 0, .ref 205, .int s0], hp nS M)) (am_cF_to (by with_unfolding_all rfl)) rfl (by with_unfolding_all rfl)).trans ?_
  show am_Wp _ 0 1178 _ _ _ _ = _
  refine (eq_step (e := (.iadd, 1, 0, 0, 0)) (q := (1179, [.ref 0, .ref 16, .ref 205, .int x3], [.int (x3 + 1), .ref 0, .ref 205, .int s0], hp nS M)) (am_cF_to (by with_unfolding_all rfl)) rfl (by with_unfolding_all rfl)).trans ?_
  show am_Wp _ 0 1179 _ _ _ _ = _
  refine (eq_ald (e := (.iaload, 1, 0, 0, 0)) (by with_unfolding_all rfl) rfl (n := nS) (by with_unfolding_all rfl) h1).trans ?_
  show am_Wp _ 0 1180 _ _ _ _ = _
  refine (eq_step (e := (.aload_n 0, 1, 0, 0, 0)) (q := (1181, [.ref 0, .ref 16, .ref 205, .int x3], [.ref 0, .int (M 0 (x3 + 1).toNatClampNeg), .ref 205, .int s0], hp nS M)) (am_cF_to (by with_unfolding_all rfl)) rfl (by with_unfolding_all rfl)).trans ?_
  show am_Wp _ 0 1181 _ _ _ _ = _
  refine (eq_step (e := (.iload_n 3, 1, 0, 0, 0)) (q := (1182, [.ref 0, .ref 16, .ref 205, .int x3], [.int x3, .ref 0, .int (M 0 (x3 + 1).toNatClampNeg), .ref 205, .int s0], hp nS M)) (am_cF_to (by with_unfolding_all rfl)) rfl (by with_unfolding_all rfl)).trans ?_
  show am_Wp _ 0 1182 _ _ _ _ = _
  refine (eq_step (e := (.iconst 2, 1, 0, 0, 0)) (q := (1183, [.ref 0, .ref 16, .ref 205, .int x3], [.int 2, .int x3, .ref 0, .int (M 0 (x3 + 1).toNatClampNeg), .ref 205, .int s0], hp nS M)) (am_cF_to (by with_unfolding_all rfl)) rfl (by with_unfolding_all rfl)).trans ?_
  show am_Wp _ 0 1183 _ _ _ _ = _
  refine (eq_step (e := (.iadd, 1, 0, 0, 0)) (q := (1184, [.ref 0, .ref 16, .ref 205, .int x3], [.int (x3 + 2), .ref 0, .int (M 0 (x3 + 1).toNatClampNeg), .ref 205, .int s0], hp nS M)) (am_cF_to (by with_unfolding_all rfl)) rfl (by with_unfolding_all rfl)).trans ?_
  show am_Wp _ 0 1184 _ _ _ _ = _
  refine (eq_ald (e := (.iaload, 1, 0, 0, 0)) (by with_unfolding_all rfl) rfl (n := nS) (by with_unfolding_all rfl) h2).trans ?_
  show am_Wp _ 0 1185 _ _ _ _ = _
  exact eq_call2 (e := (.invokevirtual 142, 3, 0, 280, 258)) (as := [.ref 205, .int (M 0 (x3 + 1).toNatClampNeg), .int (M 0 (x3 + 2).toNatClampNeg)]) (r := [.int s0]) (n := 3) (m := 6) (by with_unfolding_all rfl) rfl (by decide) (by with_unfolding_all rfl) (by decide) (by with_unfolding_all rfl) ⟨fun _ => am_rec_ok (c := 14) (by with_unfolding_all rfl) (by decide +kernel), fun z => by simp at z⟩
set_option maxRecDepth 20000 in
theorem b_0_1188 {d nS : Nat} {x3 s0 s1 : Int32} {M : am_M} {Q : Option Value → am_H → Prop} : am_Wp d 0 1188 [.ref 0, .ref 16, .ref 205, .int x3] [.int s1, .int s0] (hp nS M) Q = if s0 = s1 then am_Wp d 0 1410 [.ref 0, .ref 16, .ref 205, .int x3] [] (hp nS M) Q else am_Wp d 0 1191 [.ref 0, .ref 16, .ref 205, .int x3] [] (hp nS M) Q := by
  exact eq_cmp_eq (by with_unfolding_all rfl)
set_option maxRecDepth 20000 in
theorem b_0_1191 {d nS : Nat} {x3 : Int32} {M : am_M} {Q : Option Value → am_H → Prop} : am_Wp d 0 1191 [.ref 0, .ref 16, .ref 205, .int x3] [] (hp nS M) Q = Q (some (.int 0)) (hp nS M) := by
  refine (eq_step (e := (.iconst 0, 1, 0, 0, 0)) (q := (1192, [.ref 0, .ref 16, .ref 205, .int x3], [.int 0], hp nS M)) (am_cF_to (by with_unfolding_all rfl)) rfl (by with_unfolding_all rfl)).trans ?_
  show am_Wp _ 0 1192 _ _ _ _ = _
  exact eq_retI2 (e := (.ireturn, 1, 0, 0, 0)) (t := .boolean) (by with_unfolding_all rfl) rfl (by with_unfolding_all rfl) rfl
set_option maxRecDepth 20000 in
theorem b_0_1193 {d nS : Nat} {x3 : Int32} {M : am_M} {Q : Option Value → am_H → Prop} (h1 : vp_in (x3 + 1) nS) (h2 : vp_in (x3 + 2) nS) : am_Wp (d + 1) 0 1193 [.ref 0, .ref 16, .ref 205, .int x3] [] (hp nS M) Q = am_Wp d 159 0 [.ref 16, .int (M 0 (x3 + 1).toNatClampNeg), .int (M 0 (x3 + 2).toNatClampNeg)] [] (hp nS M) (fun v h1 => am_Wp (d + 1) 0 1207 [.ref 0, .ref 16, .ref 205, .int x3] (am_ans v []) h1 Q) := by
  refine (eq_step (e := (.aload_n 1, 1, 0, 0, 0)) (q := (1194, [.ref 0, .ref 16, .ref 205, .int x3], [.ref 16], hp nS M)) (am_cF_to (by with_unfolding_all rfl)) rfl (by with_unfolding_all rfl)).trans ?_
  show am_Wp _ 0 1194 _ _ _ _ = _
  refine (eq_step (e := (.aload_n 0, 1, 0, 0, 0)) (q := (1195, [.ref 0, .ref 16, .ref 205, .int x3], [.ref 0, .ref 16], hp nS M)) (am_cF_to (by with_unfolding_all rfl)) rfl (by with_unfolding_all rfl)).trans ?_
  show am_Wp _ 0 1195 _ _ _ _ = _
  refine (eq_step (e := (.iload_n 3, 1, 0, 0, 0)) (q := (1196, [.ref 0, .ref 16, .ref 205, .int x3], [.int x3, .ref 0, .ref 16], hp nS M)) (am_cF_to (by with_unfolding_all rfl)) rfl (by with_unfolding_all rfl)).trans ?_
  show am_Wp _ 0 1196 _ _ _ _ = _
  refine (eq_step (e := (.iconst 1, 1, 0, 0, 0)) (q := (1197, [.ref 0, .ref 16, .ref 205, .int x3], [.int 1, .int x3, .ref 0, .ref 16], hp nS M)) (am_cF_to (by with_unfolding_all rfl)) rfl (by with_unfolding_all rfl)).trans ?_
  show am_Wp _ 0 1197 _ _ _ _ = _
  refine (eq_step (e := (.iadd, 1, 0, 0, 0)) (q := (1198, [.ref 0, .ref 16, .ref 205, .int x3], [.int (x3 + 1), .ref 0, .ref 16], hp nS M)) (am_cF_to (by with_unfolding_all rfl)) rfl (by with_unfolding_all rfl)).trans ?_
  show am_Wp _ 0 1198 _ _ _ _ = _
  refine (eq_ald (e := (.iaload, 1, 0, 0, 0)) (by with_unfolding_all rfl) rfl (n := nS) (by with_unfolding_all rfl) h1).trans ?_
  show am_Wp _ 0 1199 _ _ _ _ = _
  refine (eq_step (e := (.aload_n 0, 1, 0, 0, 0)) (q := (1200, [.ref 0, .ref 16, .ref 205, .int x3], [.ref 0, .int (M 0 (x3 + 1).toNatClampNeg), .ref 16], hp nS M)) (am_cF_to (by with_unfolding_all rfl)) rfl (by with_unfolding_all rfl)).trans ?_
  show am_Wp _ 0 1200 _ _ _ _ = _
  refine (eq_step (e := (.iload_n 3, 1, 0, 0, 0)) (q := (1201, [.ref 0, .ref 16, .ref 205, .int x3], [.int x3, .ref 0, .int (M 0 (x3 + 1).toNatClampNeg), .ref 16], hp nS M)) (am_cF_to (by with_unfolding_all rfl)) rfl (by with_unfolding_all rfl)).trans ?_
  show am_Wp _ 0 1201 _ _ _ _ = _
  refine (eq_step (e := (.iconst 2, 1, 0, 0, 0)) (q := (1202, [.ref 0, .ref 16, .ref 205, .int x3], [.int 2, .int x3, .ref 0, .int (M 0 (x3 + 1).toNatClampNeg), .ref 16], hp nS M)) (am_cF_to (by with_unfolding_all rfl)) rfl (by with_unfolding_all rfl)).trans ?_
  show am_Wp _ 0 1202 _ _ _ _ = _
  refine (eq_step (e := (.iadd, 1, 0, 0, 0)) (q := (1203, [.ref 0, .ref 16, .ref 205, .int x3], [.int (x3 + 2), .ref 0, .int (M 0 (x3 + 1).toNatClampNeg), .ref 16], hp nS M)) (am_cF_to (by with_unfolding_all rfl)) rfl (by with_unfolding_all rfl)).trans ?_
  show am_Wp _ 0 1203 _ _ _ _ = _
  refine (eq_ald (e := (.iaload, 1, 0, 0, 0)) (by with_unfolding_all rfl) rfl (n := nS) (by with_unfolding_all rfl) h2).trans ?_
  show am_Wp _ 0 1204 _ _ _ _ = _
  exact eq_call2 (e := (.invokevirtual 143, 3, 0, 159, 259)) (as := [.ref 16, .int (M 0 (x3 + 1).toNatClampNeg), .int (M 0 (x3 + 2).toNatClampNeg)]) (r := []) (n := 3) (m := 3) (by with_unfolding_all rfl) rfl (by decide) (by with_unfolding_all rfl) (by decide) (by with_unfolding_all rfl) ⟨fun _ => am_rec_ok (c := 13) (by with_unfolding_all rfl) (by decide +kernel), fun z => by simp at z⟩
set_option maxRecDepth 20000 in
theorem b_0_1207 {d nS : Nat} {x3 s0 : Int32} {M : am_M} {Q : Option Value → am_H → Prop} (h1 : vp_in (x3 + 1) nS) (h2 : vp_in (x3 + 2) nS) : am_Wp (d + 1) 0 1207 [.ref 0, .ref 16, .ref 205, .int x3] [.int s0] (hp nS M) Q = am_Wp d 283 0 [.ref 205, .int (M 0 (x3 + 1).toNatClampNeg), .int (M 0 (x3 + 2).toNatClampNeg)] [] (hp nS M) (fun v h1 => am_Wp (d + 1) 0 1221 [.ref 0, .ref 16, .ref 205, .int x3] (am_ans v [.int s0]) h1 Q) := by
  refine (eq_step (e := (.aload_n 2, 1, 0, 0, 0)) (q := (1208, [.ref 0, .ref 16, .ref 205, .int x3], [.ref 205, .int s0], hp nS M)) (am_cF_to (by with_unfolding_all rfl)) rfl (by with_unfolding_all rfl)).trans ?_
  show am_Wp _ 0 1208 _ _ _ _ = _
  refine (eq_step (e := (.aload_n 0, 1, 0, 0, 0)) (q := (1209, [.ref 0, .ref 16, .ref 205, .int x3], [.ref 0, .ref 205, .int s0], hp nS M)) (am_cF_to (by with_unfolding_all rfl)) rfl (by with_unfolding_all rfl)).trans ?_
  show am_Wp _ 0 1209 _ _ _ _ = _
  refine (eq_step (e := (.iload_n 3, 1, 0, 0, 0)) (q := (1210, [.ref 0, .ref 16, .ref 205, .int x3], [.int x3, .ref 0, .ref 205, .int s0], hp nS M)) (am_cF_to (by with_unfolding_all rfl)) rfl (by with_unfolding_all rfl)).trans ?_
  show am_Wp _ 0 1210 _ _ _ _ = _
  refine (eq_step (e := (.iconst 1, 1, 0, 0, 0)) (q := (1211, [.ref 0, .ref 16, .ref 205, .int x3], [.int 1, .int x3, .ref 0, .ref 205, .int s0], hp nS M)) (am_cF_to (by with_unfolding_all rfl)) rfl (by with_unfolding_all rfl)).trans ?_
  show am_Wp _ 0 1211 _ _ _ _ = _
  refine (eq_step (e := (.iadd, 1, 0, 0, 0)) (q := (1212, [.ref 0, .ref 16, .ref 205, .int x3], [.int (x3 + 1), .ref 0, .ref 205, .int s0], hp nS M)) (am_cF_to (by with_unfolding_all rfl)) rfl (by with_unfolding_all rfl)).trans ?_
  show am_Wp _ 0 1212 _ _ _ _ = _
  refine (eq_ald (e := (.iaload, 1, 0, 0, 0)) (by with_unfolding_all rfl) rfl (n := nS) (by with_unfolding_all rfl) h1).trans ?_
  show am_Wp _ 0 1213 _ _ _ _ = _
  refine (eq_step (e := (.aload_n 0, 1, 0, 0, 0)) (q := (1214, [.ref 0, .ref 16, .ref 205, .int x3], [.ref 0, .int (M 0 (x3 + 1).toNatClampNeg), .ref 205, .int s0], hp nS M)) (am_cF_to (by with_unfolding_all rfl)) rfl (by with_unfolding_all rfl)).trans ?_
  show am_Wp _ 0 1214 _ _ _ _ = _
  refine (eq_step (e := (.iload_n 3, 1, 0, 0, 0)) (q := (1215, [.ref 0, .ref 16, .ref 205, .int x3], [.int x3, .ref 0, .int (M 0 (x3 + 1).toNatClampNeg), .ref 205, .int s0], hp nS M)) (am_cF_to (by with_unfolding_all rfl)) rfl (by with_unfolding_all rfl)).trans ?_
  show am_Wp _ 0 1215 _ _ _ _ = _
  refine (eq_step (e := (.iconst 2, 1, 0, 0, 0)) (q := (1216, [.ref 0, .ref 16, .ref 205, .int x3], [.int 2, .int x3, .ref 0, .int (M 0 (x3 + 1).toNatClampNeg), .ref 205, .int s0], hp nS M)) (am_cF_to (by with_unfolding_all rfl)) rfl (by with_unfolding_all rfl)).trans ?_
  show am_Wp _ 0 1216 _ _ _ _ = _
  refine (eq_step (e := (.iadd, 1, 0, 0, 0)) (q := (1217, [.ref 0, .ref 16, .ref 205, .int x3], [.int (x3 + 2), .ref 0, .int (M 0 (x3 + 1).toNatClampNeg), .ref 205, .int s0], hp nS M)) (am_cF_to (by with_unfolding_all rfl)) rfl (by with_unfolding_all rfl)).trans ?_
  show am_Wp _ 0 1217 _ _ _ _ = _
  refine (eq_ald (e := (.iaload, 1, 0, 0, 0)) (by with_unfolding_all rfl) rfl (n := nS) (by with_unfolding_all rfl) h2).trans ?_
  show am_Wp _ 0 1218 _ _ _ _ = _
  exact eq_call2 (e := (.invokevirtual 146, 3, 0, 283, 260)) (as := [.ref 205, .int (M 0 (x3 + 1).toNatClampNeg), .int (M 0 (x3 + 2).toNatClampNeg)]) (r := [.int s0]) (n := 3) (m := 3) (by with_unfolding_all rfl) rfl (by decide) (by with_unfolding_all rfl) (by decide) (by with_unfolding_all rfl) ⟨fun _ => am_rec_ok (c := 14) (by with_unfolding_all rfl) (by decide +kernel), fun z => by simp at z⟩
set_option maxRecDepth 20000 in
theorem b_0_1221 {d nS : Nat} {x3 s0 s1 : Int32} {M : am_M} {Q : Option Value → am_H → Prop} : am_Wp d 0 1221 [.ref 0, .ref 16, .ref 205, .int x3] [.int s1, .int s0] (hp nS M) Q = if s0 = s1 then am_Wp d 0 1410 [.ref 0, .ref 16, .ref 205, .int x3] [] (hp nS M) Q else am_Wp d 0 1224 [.ref 0, .ref 16, .ref 205, .int x3] [] (hp nS M) Q := by
  exact eq_cmp_eq (by with_unfolding_all rfl)
set_option maxRecDepth 20000 in
theorem b_0_1224 {d nS : Nat} {x3 : Int32} {M : am_M} {Q : Option Value → am_H → Prop} : am_Wp d 0 1224 [.ref 0, .ref 16, .ref 205, .int x3] [] (hp nS M) Q = Q (some (.int 0)) (hp nS M) := by
  refine (eq_step (e := (.iconst 0, 1, 0, 0, 0)) (q := (1225, [.ref 0, .ref 16, .ref 205, .int x3], [.int 0], hp nS M)) (am_cF_to (by with_unfolding_all rfl)) rfl (by with_unfolding_all rfl)).trans ?_
  show am_Wp _ 0 1225 _ _ _ _ = _
  exact eq_retI2 (e := (.ireturn, 1, 0, 0, 0)) (t := .boolean) (by with_unfolding_all rfl) rfl (by with_unfolding_all rfl) rfl
set_option maxRecDepth 20000 in
theorem b_0_1226 {d nS : Nat} {x3 : Int32} {M : am_M} {Q : Option Value → am_H → Prop} (h1 : vp_in (x3 + 1) nS) (h2 : vp_in (x3 + 2) nS) : am_Wp (d + 1) 0 1226 [.ref 0, .ref 16, .ref 205, .int x3] [] (hp nS M) Q = am_Wp d 160 0 [.ref 16, .int (M 0 (x3 + 1).toNatClampNeg), .int (M 0 (x3 + 2).toNatClampNeg)] [] (hp nS M) (fun v h1 => am_Wp (d + 1) 0 1240 [.ref 0, .ref 16, .ref 205, .int x3] (am_ans v []) h1 Q) := by
  refine (eq_step (e := (.aload_n 1, 1, 0, 0, 0)) (q := (1227, [.ref 0, .ref 16, .ref 205, .int x3], [.ref 16], hp nS M)) (am_cF_to (by with_unfolding_all rfl)) rfl (by with_unfolding_all rfl)).trans ?_
  show am_Wp _ 0 1227 _ _ _ _ = _
  refine (eq_step (e := (.aload_n 0, 1, 0, 0, 0)) (q := (1228, [.ref 0, .ref 16, .ref 205, .int x3], [.ref 0, .ref 16], hp nS M)) (am_cF_to (by with_unfolding_all rfl)) rfl (by with_unfolding_all rfl)).trans ?_
  show am_Wp _ 0 1228 _ _ _ _ = _
  refine (eq_step (e := (.iload_n 3, 1, 0, 0, 0)) (q := (1229, [.ref 0, .ref 16, .ref 205, .int x3], [.int x3, .ref 0, .ref 16], hp nS M)) (am_cF_to (by with_unfolding_all rfl)) rfl (by with_unfolding_all rfl)).trans ?_
  show am_Wp _ 0 1229 _ _ _ _ = _
  refine (eq_step (e := (.iconst 1, 1, 0, 0, 0)) (q := (1230, [.ref 0, .ref 16, .ref 205, .int x3], [.int 1, .int x3, .ref 0, .ref 16], hp nS M)) (am_cF_to (by with_unfolding_all rfl)) rfl (by with_unfolding_all rfl)).trans ?_
  show am_Wp _ 0 1230 _ _ _ _ = _
  refine (eq_step (e := (.iadd, 1, 0, 0, 0)) (q := (1231, [.ref 0, .ref 16, .ref 205, .int x3], [.int (x3 + 1), .ref 0, .ref 16], hp nS M)) (am_cF_to (by with_unfolding_all rfl)) rfl (by with_unfolding_all rfl)).trans ?_
  show am_Wp _ 0 1231 _ _ _ _ = _
  refine (eq_ald (e := (.iaload, 1, 0, 0, 0)) (by with_unfolding_all rfl) rfl (n := nS) (by with_unfolding_all rfl) h1).trans ?_
  show am_Wp _ 0 1232 _ _ _ _ = _
  refine (eq_step (e := (.aload_n 0, 1, 0, 0, 0)) (q := (1233, [.ref 0, .ref 16, .ref 205, .int x3], [.ref 0, .int (M 0 (x3 + 1).toNatClampNeg), .ref 16], hp nS M)) (am_cF_to (by with_unfolding_all rfl)) rfl (by with_unfolding_all rfl)).trans ?_
  show am_Wp _ 0 1233 _ _ _ _ = _
  refine (eq_step (e := (.iload_n 3, 1, 0, 0, 0)) (q := (1234, [.ref 0, .ref 16, .ref 205, .int x3], [.int x3, .ref 0, .int (M 0 (x3 + 1).toNatClampNeg), .ref 16], hp nS M)) (am_cF_to (by with_unfolding_all rfl)) rfl (by with_unfolding_all rfl)).trans ?_
  show am_Wp _ 0 1234 _ _ _ _ = _
  refine (eq_step (e := (.iconst 2, 1, 0, 0, 0)) (q := (1235, [.ref 0, .ref 16, .ref 205, .int x3], [.int 2, .int x3, .ref 0, .int (M 0 (x3 + 1).toNatClampNeg), .ref 16], hp nS M)) (am_cF_to (by with_unfolding_all rfl)) rfl (by with_unfolding_all rfl)).trans ?_
  show am_Wp _ 0 1235 _ _ _ _ = _
  refine (eq_step (e := (.iadd, 1, 0, 0, 0)) (q := (1236, [.ref 0, .ref 16, .ref 205, .int x3], [.int (x3 + 2), .ref 0, .int (M 0 (x3 + 1).toNatClampNeg), .ref 16], hp nS M)) (am_cF_to (by with_unfolding_all rfl)) rfl (by with_unfolding_all rfl)).trans ?_
  show am_Wp _ 0 1236 _ _ _ _ = _
  refine (eq_ald (e := (.iaload, 1, 0, 0, 0)) (by with_unfolding_all rfl) rfl (n := nS) (by with_unfolding_all rfl) h2).trans ?_
  show am_Wp _ 0 1237 _ _ _ _ = _
  exact eq_call2 (e := (.invokevirtual 147, 3, 0, 160, 261)) (as := [.ref 16, .int (M 0 (x3 + 1).toNatClampNeg), .int (M 0 (x3 + 2).toNatClampNeg)]) (r := []) (n := 3) (m := 3) (by with_unfolding_all rfl) rfl (by decide) (by with_unfolding_all rfl) (by decide) (by with_unfolding_all rfl) ⟨fun _ => am_rec_ok (c := 13) (by with_unfolding_all rfl) (by decide +kernel), fun z => by simp at z⟩
set_option maxRecDepth 20000 in
theorem b_0_1240 {d nS : Nat} {x3 s0 : Int32} {M : am_M} {Q : Option Value → am_H → Prop} (h1 : vp_in (x3 + 1) nS) (h2 : vp_in (x3 + 2) nS) : am_Wp (d + 1) 0 1240 [.ref 0, .ref 16, .ref 205, .int x3] [.int s0] (hp nS M) Q = am_Wp d 284 0 [.ref 205, .int (M 0 (x3 + 1).toNatClampNeg), .int (M 0 (x3 + 2).toNatClampNeg), .retAddr 0, .retAddr 0, .retAddr 0, .retAddr 0, .retAddr 0] [] (hp nS M) (fun v h1 => am_Wp (d + 1) 0 1254 [.ref 0, .ref 16, .ref 205, .int x3] (am_ans v [.int s0]) h1 Q) := by
  refine (eq_step (e := (.aload_n 2, 1, 0, 0, 0)) (q := (1241, [.ref 0, .ref 16, .ref 205, .int x3], [.ref 205, .int s0], hp nS M)) (am_cF_to (by with_unfolding_all rfl)) rfl (by with_unfolding_all rfl)).trans ?_
  show am_Wp _ 0 1241 _ _ _ _ = _
  refine (eq_step (e := (.aload_n 0, 1, 0, 0, 0)) (q := (1242, [.ref 0, .ref 16, .ref 205, .int x3], [.ref 0, .ref 205, .int s0], hp nS M)) (am_cF_to (by with_unfolding_all rfl)) rfl (by with_unfolding_all rfl)).trans ?_
  show am_Wp _ 0 1242 _ _ _ _ = _
  refine (eq_step (e := (.iload_n 3, 1, 0, 0, 0)) (q := (1243, [.ref 0, .ref 16, .ref 205, .int x3], [.int x3, .ref 0, .ref 205, .int s0], hp nS M)) (am_cF_to (by with_unfolding_all rfl)) rfl (by with_unfolding_all rfl)).trans ?_
  show am_Wp _ 0 1243 _ _ _ _ = _
  refine (eq_step (e := (.iconst 1, 1, 0, 0, 0)) (q := (1244, [.ref 0, .ref 16, .ref 205, .int x3], [.int 1, .int x3, .ref 0, .ref 205, .int s0], hp nS M)) (am_cF_to (by with_unfolding_all rfl)) rfl (by with_unfolding_all rfl)).trans ?_
  show am_Wp _ 0 1244 _ _ _ _ = _
  refine (eq_step (e := (.iadd, 1, 0, 0, 0)) (q := (1245, [.ref 0, .ref 16, .ref 205, .int x3], [.int (x3 + 1), .ref 0, .ref 205, .int s0], hp nS M)) (am_cF_to (by with_unfolding_all rfl)) rfl (by with_unfolding_all rfl)).trans ?_
  show am_Wp _ 0 1245 _ _ _ _ = _
  refine (eq_ald (e := (.iaload, 1, 0, 0, 0)) (by with_unfolding_all rfl) rfl (n := nS) (by with_unfolding_all rfl) h1).trans ?_
  show am_Wp _ 0 1246 _ _ _ _ = _
  refine (eq_step (e := (.aload_n 0, 1, 0, 0, 0)) (q := (1247, [.ref 0, .ref 16, .ref 205, .int x3], [.ref 0, .int (M 0 (x3 + 1).toNatClampNeg), .ref 205, .int s0], hp nS M)) (am_cF_to (by with_unfolding_all rfl)) rfl (by with_unfolding_all rfl)).trans ?_
  show am_Wp _ 0 1247 _ _ _ _ = _
  refine (eq_step (e := (.iload_n 3, 1, 0, 0, 0)) (q := (1248, [.ref 0, .ref 16, .ref 205, .int x3], [.int x3, .ref 0, .int (M 0 (x3 + 1).toNatClampNeg), .ref 205, .int s0], hp nS M)) (am_cF_to (by with_unfolding_all rfl)) rfl (by with_unfolding_all rfl)).trans ?_
  show am_Wp _ 0 1248 _ _ _ _ = _
  refine (eq_step (e := (.iconst 2, 1, 0, 0, 0)) (q := (1249, [.ref 0, .ref 16, .ref 205, .int x3], [.int 2, .int x3, .ref 0, .int (M 0 (x3 + 1).toNatClampNeg), .ref 205, .int s0], hp nS M)) (am_cF_to (by with_unfolding_all rfl)) rfl (by with_unfolding_all rfl)).trans ?_
  show am_Wp _ 0 1249 _ _ _ _ = _
  refine (eq_step (e := (.iadd, 1, 0, 0, 0)) (q := (1250, [.ref 0, .ref 16, .ref 205, .int x3], [.int (x3 + 2), .ref 0, .int (M 0 (x3 + 1).toNatClampNeg), .ref 205, .int s0], hp nS M)) (am_cF_to (by with_unfolding_all rfl)) rfl (by with_unfolding_all rfl)).trans ?_
  show am_Wp _ 0 1250 _ _ _ _ = _
  refine (eq_ald (e := (.iaload, 1, 0, 0, 0)) (by with_unfolding_all rfl) rfl (n := nS) (by with_unfolding_all rfl) h2).trans ?_
  show am_Wp _ 0 1251 _ _ _ _ = _
  exact eq_call2 (e := (.invokevirtual 150, 3, 0, 284, 262)) (as := [.ref 205, .int (M 0 (x3 + 1).toNatClampNeg), .int (M 0 (x3 + 2).toNatClampNeg)]) (r := [.int s0]) (n := 3) (m := 8) (by with_unfolding_all rfl) rfl (by decide) (by with_unfolding_all rfl) (by decide) (by with_unfolding_all rfl) ⟨fun _ => am_rec_ok (c := 14) (by with_unfolding_all rfl) (by decide +kernel), fun z => by simp at z⟩
set_option maxRecDepth 20000 in
theorem b_0_1254 {d nS : Nat} {x3 s0 s1 : Int32} {M : am_M} {Q : Option Value → am_H → Prop} : am_Wp d 0 1254 [.ref 0, .ref 16, .ref 205, .int x3] [.int s1, .int s0] (hp nS M) Q = if s0 = s1 then am_Wp d 0 1410 [.ref 0, .ref 16, .ref 205, .int x3] [] (hp nS M) Q else am_Wp d 0 1257 [.ref 0, .ref 16, .ref 205, .int x3] [] (hp nS M) Q := by
  exact eq_cmp_eq (by with_unfolding_all rfl)
set_option maxRecDepth 20000 in
theorem b_0_1257 {d nS : Nat} {x3 : Int32} {M : am_M} {Q : Option Value → am_H → Prop} : am_Wp d 0 1257 [.ref 0, .ref 16, .ref 205, .int x3] [] (hp nS M) Q = Q (some (.int 0)) (hp nS M) := by
  refine (eq_step (e := (.iconst 0, 1, 0, 0, 0)) (q := (1258, [.ref 0, .ref 16, .ref 205, .int x3], [.int 0], hp nS M)) (am_cF_to (by with_unfolding_all rfl)) rfl (by with_unfolding_all rfl)).trans ?_
  show am_Wp _ 0 1258 _ _ _ _ = _
  exact eq_retI2 (e := (.ireturn, 1, 0, 0, 0)) (t := .boolean) (by with_unfolding_all rfl) rfl (by with_unfolding_all rfl) rfl
set_option maxRecDepth 20000 in
theorem b_0_1259 {d nS : Nat} {x3 : Int32} {M : am_M} {Q : Option Value → am_H → Prop} (h1 : vp_in (x3 + 1) nS) (h2 : vp_in (x3 + 2) nS) : am_Wp (d + 1) 0 1259 [.ref 0, .ref 16, .ref 205, .int x3] [] (hp nS M) Q = am_Wp d 161 0 [.ref 16, .int (M 0 (x3 + 1).toNatClampNeg), .int (M 0 (x3 + 2).toNatClampNeg)] [] (hp nS M) (fun v h1 => am_Wp (d + 1) 0 1273 [.ref 0, .ref 16, .ref 205, .int x3] (am_ans v []) h1 Q) := by
  refine (eq_step (e := (.aload_n 1, 1, 0, 0, 0)) (q := (1260, [.ref 0, .ref 16, .ref 205, .int x3], [.ref 16], hp nS M)) (am_cF_to (by with_unfolding_all rfl)) rfl (by with_unfolding_all rfl)).trans ?_
  show am_Wp _ 0 1260 _ _ _ _ = _
  refine (eq_step (e := (.aload_n 0, 1, 0, 0, 0)) (q := (1261, [.ref 0, .ref 16, .ref 205, .int x3], [.ref 0, .ref 16], hp nS M)) (am_cF_to (by with_unfolding_all rfl)) rfl (by with_unfolding_all rfl)).trans ?_
  show am_Wp _ 0 1261 _ _ _ _ = _
  refine (eq_step (e := (.iload_n 3, 1, 0, 0, 0)) (q := (1262, [.ref 0, .ref 16, .ref 205, .int x3], [.int x3, .ref 0, .ref 16], hp nS M)) (am_cF_to (by with_unfolding_all rfl)) rfl (by with_unfolding_all rfl)).trans ?_
  show am_Wp _ 0 1262 _ _ _ _ = _
  refine (eq_step (e := (.iconst 1, 1, 0, 0, 0)) (q := (1263, [.ref 0, .ref 16, .ref 205, .int x3], [.int 1, .int x3, .ref 0, .ref 16], hp nS M)) (am_cF_to (by with_unfolding_all rfl)) rfl (by with_unfolding_all rfl)).trans ?_
  show am_Wp _ 0 1263 _ _ _ _ = _
  refine (eq_step (e := (.iadd, 1, 0, 0, 0)) (q := (1264, [.ref 0, .ref 16, .ref 205, .int x3], [.int (x3 + 1), .ref 0, .ref 16], hp nS M)) (am_cF_to (by with_unfolding_all rfl)) rfl (by with_unfolding_all rfl)).trans ?_
  show am_Wp _ 0 1264 _ _ _ _ = _
  refine (eq_ald (e := (.iaload, 1, 0, 0, 0)) (by with_unfolding_all rfl) rfl (n := nS) (by with_unfolding_all rfl) h1).trans ?_
  show am_Wp _ 0 1265 _ _ _ _ = _
  refine (eq_step (e := (.aload_n 0, 1, 0, 0, 0)) (q := (1266, [.ref 0, .ref 16, .ref 205, .int x3], [.ref 0, .int (M 0 (x3 + 1).toNatClampNeg), .ref 16], hp nS M)) (am_cF_to (by with_unfolding_all rfl)) rfl (by with_unfolding_all rfl)).trans ?_
  show am_Wp _ 0 1266 _ _ _ _ = _
  refine (eq_step (e := (.iload_n 3, 1, 0, 0, 0)) (q := (1267, [.ref 0, .ref 16, .ref 205, .int x3], [.int x3, .ref 0, .int (M 0 (x3 + 1).toNatClampNeg), .ref 16], hp nS M)) (am_cF_to (by with_unfolding_all rfl)) rfl (by with_unfolding_all rfl)).trans ?_
  show am_Wp _ 0 1267 _ _ _ _ = _
  refine (eq_step (e := (.iconst 2, 1, 0, 0, 0)) (q := (1268, [.ref 0, .ref 16, .ref 205, .int x3], [.int 2, .int x3, .ref 0, .int (M 0 (x3 + 1).toNatClampNeg), .ref 16], hp nS M)) (am_cF_to (by with_unfolding_all rfl)) rfl (by with_unfolding_all rfl)).trans ?_
  show am_Wp _ 0 1268 _ _ _ _ = _
  refine (eq_step (e := (.iadd, 1, 0, 0, 0)) (q := (1269, [.ref 0, .ref 16, .ref 205, .int x3], [.int (x3 + 2), .ref 0, .int (M 0 (x3 + 1).toNatClampNeg), .ref 16], hp nS M)) (am_cF_to (by with_unfolding_all rfl)) rfl (by with_unfolding_all rfl)).trans ?_
  show am_Wp _ 0 1269 _ _ _ _ = _
  refine (eq_ald (e := (.iaload, 1, 0, 0, 0)) (by with_unfolding_all rfl) rfl (n := nS) (by with_unfolding_all rfl) h2).trans ?_
  show am_Wp _ 0 1270 _ _ _ _ = _
  exact eq_call2 (e := (.invokevirtual 151, 3, 0, 161, 263)) (as := [.ref 16, .int (M 0 (x3 + 1).toNatClampNeg), .int (M 0 (x3 + 2).toNatClampNeg)]) (r := []) (n := 3) (m := 3) (by with_unfolding_all rfl) rfl (by decide) (by with_unfolding_all rfl) (by decide) (by with_unfolding_all rfl) ⟨fun _ => am_rec_ok (c := 13) (by with_unfolding_all rfl) (by decide +kernel), fun z => by simp at z⟩
set_option maxRecDepth 20000 in
theorem b_0_1273 {d nS : Nat} {x3 s0 : Int32} {M : am_M} {Q : Option Value → am_H → Prop} (h1 : vp_in (x3 + 1) nS) (h2 : vp_in (x3 + 2) nS) : am_Wp (d + 1) 0 1273 [.ref 0, .ref 16, .ref 205, .int x3] [.int s0] (hp nS M) Q = am_Wp d 286 0 [.ref 205, .int (M 0 (x3 + 1).toNatClampNeg), .int (M 0 (x3 + 2).toNatClampNeg)] [] (hp nS M) (fun v h1 => am_Wp (d + 1) 0 1287 [.ref 0, .ref 16, .ref 205, .int x3] (am_ans v [.int s0]) h1 Q) := by
  refine (eq_step (e := (.aload_n 2, 1, 0, 0, 0)) (q := (1274, [.ref 0, .ref 16, .ref 205, .int x3], [.ref 205, .int s0], hp nS M)) (am_cF_to (by with_unfolding_all rfl)) rfl (by with_unfolding_all rfl)).trans ?_
  show am_Wp _ 0 1274 _ _ _ _ = _
  refine (eq_step (e := (.aload_n 0, 1, 0, 0, 0)) (q := (1275, [.ref 0, .ref 16, .ref 205, .int x3], [.ref 0, .ref 205, .int s0], hp nS M)) (am_cF_to (by with_unfolding_all rfl)) rfl (by with_unfolding_all rfl)).trans ?_
  show am_Wp _ 0 1275 _ _ _ _ = _
  refine (eq_step (e := (.iload_n 3, 1, 0, 0, 0)) (q := (1276, [.ref 0, .ref 16, .ref 205, .int x3], [.int x3, .ref 0, .ref 205, .int s0], hp nS M)) (am_cF_to (by with_unfolding_all rfl)) rfl (by with_unfolding_all rfl)).trans ?_
  show am_Wp _ 0 1276 _ _ _ _ = _
  refine (eq_step (e := (.iconst 1, 1, 0, 0, 0)) (q := (1277, [.ref 0, .ref 16, .ref 205, .int x3], [.int 1, .int x3, .ref 0, .ref 205, .int s0], hp nS M)) (am_cF_to (by with_unfolding_all rfl)) rfl (by with_unfolding_all rfl)).trans ?_
  show am_Wp _ 0 1277 _ _ _ _ = _
  refine (eq_step (e := (.iadd, 1, 0, 0, 0)) (q := (1278, [.ref 0, .ref 16, .ref 205, .int x3], [.int (x3 + 1), .ref 0, .ref 205, .int s0], hp nS M)) (am_cF_to (by with_unfolding_all rfl)) rfl (by with_unfolding_all rfl)).trans ?_
  show am_Wp _ 0 1278 _ _ _ _ = _
  refine (eq_ald (e := (.iaload, 1, 0, 0, 0)) (by with_unfolding_all rfl) rfl (n := nS) (by with_unfolding_all rfl) h1).trans ?_
  show am_Wp _ 0 1279 _ _ _ _ = _
  refine (eq_step (e := (.aload_n 0, 1, 0, 0, 0)) (q := (1280, [.ref 0, .ref 16, .ref 205, .int x3], [.ref 0, .int (M 0 (x3 + 1).toNatClampNeg), .ref 205, .int s0], hp nS M)) (am_cF_to (by with_unfolding_all rfl)) rfl (by with_unfolding_all rfl)).trans ?_
  show am_Wp _ 0 1280 _ _ _ _ = _
  refine (eq_step (e := (.iload_n 3, 1, 0, 0, 0)) (q := (1281, [.ref 0, .ref 16, .ref 205, .int x3], [.int x3, .ref 0, .int (M 0 (x3 + 1).toNatClampNeg), .ref 205, .int s0], hp nS M)) (am_cF_to (by with_unfolding_all rfl)) rfl (by with_unfolding_all rfl)).trans ?_
  show am_Wp _ 0 1281 _ _ _ _ = _
  refine (eq_step (e := (.iconst 2, 1, 0, 0, 0)) (q := (1282, [.ref 0, .ref 16, .ref 205, .int x3], [.int 2, .int x3, .ref 0, .int (M 0 (x3 + 1).toNatClampNeg), .ref 205, .int s0], hp nS M)) (am_cF_to (by with_unfolding_all rfl)) rfl (by with_unfolding_all rfl)).trans ?_
  show am_Wp _ 0 1282 _ _ _ _ = _
  refine (eq_step (e := (.iadd, 1, 0, 0, 0)) (q := (1283, [.ref 0, .ref 16, .ref 205, .int x3], [.int (x3 + 2), .ref 0, .int (M 0 (x3 + 1).toNatClampNeg), .ref 205, .int s0], hp nS M)) (am_cF_to (by with_unfolding_all rfl)) rfl (by with_unfolding_all rfl)).trans ?_
  show am_Wp _ 0 1283 _ _ _ _ = _
  refine (eq_ald (e := (.iaload, 1, 0, 0, 0)) (by with_unfolding_all rfl) rfl (n := nS) (by with_unfolding_all rfl) h2).trans ?_
  show am_Wp _ 0 1284 _ _ _ _ = _
  exact eq_call2 (e := (.invokevirtual 154, 3, 0, 286, 264)) (as := [.ref 205, .int (M 0 (x3 + 1).toNatClampNeg), .int (M 0 (x3 + 2).toNatClampNeg)]) (r := [.int s0]) (n := 3) (m := 3) (by with_unfolding_all rfl) rfl (by decide) (by with_unfolding_all rfl) (by decide) (by with_unfolding_all rfl) ⟨fun _ => am_rec_ok (c := 14) (by with_unfolding_all rfl) (by decide +kernel), fun z => by simp at z⟩
set_option maxRecDepth 20000 in
theorem b_0_1287 {d nS : Nat} {x3 s0 s1 : Int32} {M : am_M} {Q : Option Value → am_H → Prop} : am_Wp d 0 1287 [.ref 0, .ref 16, .ref 205, .int x3] [.int s1, .int s0] (hp nS M) Q = if s0 = s1 then am_Wp d 0 1410 [.ref 0, .ref 16, .ref 205, .int x3] [] (hp nS M) Q else am_Wp d 0 1290 [.ref 0, .ref 16, .ref 205, .int x3] [] (hp nS M) Q := by
  exact eq_cmp_eq (by with_unfolding_all rfl)
set_option maxRecDepth 20000 in
theorem b_0_1290 {d nS : Nat} {x3 : Int32} {M : am_M} {Q : Option Value → am_H → Prop} : am_Wp d 0 1290 [.ref 0, .ref 16, .ref 205, .int x3] [] (hp nS M) Q = Q (some (.int 0)) (hp nS M) := by
  refine (eq_step (e := (.iconst 0, 1, 0, 0, 0)) (q := (1291, [.ref 0, .ref 16, .ref 205, .int x3], [.int 0], hp nS M)) (am_cF_to (by with_unfolding_all rfl)) rfl (by with_unfolding_all rfl)).trans ?_
  show am_Wp _ 0 1291 _ _ _ _ = _
  exact eq_retI2 (e := (.ireturn, 1, 0, 0, 0)) (t := .boolean) (by with_unfolding_all rfl) rfl (by with_unfolding_all rfl) rfl
set_option maxRecDepth 20000 in
theorem b_0_1292 {d nS : Nat} {x3 : Int32} {M : am_M} {Q : Option Value → am_H → Prop} (h1 : vp_in (x3 + 1) nS) (h2 : vp_in (x3 + 2) nS) (h3 : vp_in (x3 + 3) nS) : am_Wp (d + 1) 0 1292 [.ref 0, .ref 16, .ref 205, .int x3] [] (hp nS M) Q = am_Wp d 162 0 [.ref 16, .int (M 0 (x3 + 1).toNatClampNeg), .int (M 0 (x3 + 2).toNatClampNeg), .int (M 0 (x3 + 3).toNatClampNeg)] [] (hp nS M) (fun v h1 => am_Wp (d + 1) 0 1311 [.ref 0, .ref 16, .ref 205, .int x3] (am_ans v []) h1 Q) := by
  refine (eq_step (e := (.aload_n 1, 1, 0, 0, 0)) (q := (1293, [.ref 0, .ref 16, .ref 205, .int x3], [.ref 16], hp nS M)) (am_cF_to (by with_unfolding_all rfl)) rfl (by with_unfolding_all rfl)).trans ?_
  show am_Wp _ 0 1293 _ _ _ _ = _
  refine (eq_step (e := (.aload_n 0, 1, 0, 0, 0)) (q := (1294, [.ref 0, .ref 16, .ref 205, .int x3], [.ref 0, .ref 16], hp nS M)) (am_cF_to (by with_unfolding_all rfl)) rfl (by with_unfolding_all rfl)).trans ?_
  show am_Wp _ 0 1294 _ _ _ _ = _
  refine (eq_step (e := (.iload_n 3, 1, 0, 0, 0)) (q := (1295, [.ref 0, .ref 16, .ref 205, .int x3], [.int x3, .ref 0, .ref 16], hp nS M)) (am_cF_to (by with_unfolding_all rfl)) rfl (by with_unfolding_all rfl)).trans ?_
  show am_Wp _ 0 1295 _ _ _ _ = _
  refine (eq_step (e := (.iconst 1, 1, 0, 0, 0)) (q := (1296, [.ref 0, .ref 16, .ref 205, .int x3], [.int 1, .int x3, .ref 0, .ref 16], hp nS M)) (am_cF_to (by with_unfolding_all rfl)) rfl (by with_unfolding_all rfl)).trans ?_
  show am_Wp _ 0 1296 _ _ _ _ = _
  refine (eq_step (e := (.iadd, 1, 0, 0, 0)) (q := (1297, [.ref 0, .ref 16, .ref 205, .int x3], [.int (x3 + 1), .ref 0, .ref 16], hp nS M)) (am_cF_to (by with_unfolding_all rfl)) rfl (by with_unfolding_all rfl)).trans ?_
  show am_Wp _ 0 1297 _ _ _ _ = _
  refine (eq_ald (e := (.iaload, 1, 0, 0, 0)) (by with_unfolding_all rfl) rfl (n := nS) (by with_unfolding_all rfl) h1).trans ?_
  show am_Wp _ 0 1298 _ _ _ _ = _
  refine (eq_step (e := (.aload_n 0, 1, 0, 0, 0)) (q := (1299, [.ref 0, .ref 16, .ref 205, .int x3], [.ref 0, .int (M 0 (x3 + 1).toNatClampNeg), .ref 16], hp nS M)) (am_cF_to (by with_unfolding_all rfl)) rfl (by with_unfolding_all rfl)).trans ?_
  show am_Wp _ 0 1299 _ _ _ _ = _
  refine (eq_step (e := (.iload_n 3, 1, 0, 0, 0)) (q := (1300, [.ref 0, .ref 16, .ref 205, .int x3], [.int x3, .ref 0, .int (M 0 (x3 + 1).toNatClampNeg), .ref 16], hp nS M)) (am_cF_to (by with_unfolding_all rfl)) rfl (by with_unfolding_all rfl)).trans ?_
  show am_Wp _ 0 1300 _ _ _ _ = _
  refine (eq_step (e := (.iconst 2, 1, 0, 0, 0)) (q := (1301, [.ref 0, .ref 16, .ref 205, .int x3], [.int 2, .int x3, .ref 0, .int (M 0 (x3 + 1).toNatClampNeg), .ref 16], hp nS M)) (am_cF_to (by with_unfolding_all rfl)) rfl (by with_unfolding_all rfl)).trans ?_
  show am_Wp _ 0 1301 _ _ _ _ = _
  refine (eq_step (e := (.iadd, 1, 0, 0, 0)) (q := (1302, [.ref 0, .ref 16, .ref 205, .int x3], [.int (x3 + 2), .ref 0, .int (M 0 (x3 + 1).toNatClampNeg), .ref 16], hp nS M)) (am_cF_to (by with_unfolding_all rfl)) rfl (by with_unfolding_all rfl)).trans ?_
  show am_Wp _ 0 1302 _ _ _ _ = _
  refine (eq_ald (e := (.iaload, 1, 0, 0, 0)) (by with_unfolding_all rfl) rfl (n := nS) (by with_unfolding_all rfl) h2).trans ?_
  show am_Wp _ 0 1303 _ _ _ _ = _
  refine (eq_step (e := (.aload_n 0, 1, 0, 0, 0)) (q := (1304, [.ref 0, .ref 16, .ref 205, .int x3], [.ref 0, .int (M 0 (x3 + 2).toNatClampNeg), .int (M 0 (x3 + 1).toNatClampNeg), .ref 16], hp nS M)) (am_cF_to (by with_unfolding_all rfl)) rfl (by with_unfolding_all rfl)).trans ?_
  show am_Wp _ 0 1304 _ _ _ _ = _
  refine (eq_step (e := (.iload_n 3, 1, 0, 0, 0)) (q := (1305, [.ref 0, .ref 16, .ref 205, .int x3], [.int x3, .ref 0, .int (M 0 (x3 + 2).toNatClampNeg), .int (M 0 (x3 + 1).toNatClampNeg), .ref 16], hp nS M)) (am_cF_to (by with_unfolding_all rfl)) rfl (by with_unfolding_all rfl)).trans ?_
  show am_Wp _ 0 1305 _ _ _ _ = _
  refine (eq_step (e := (.iconst 3, 1, 0, 0, 0)) (q := (1306, [.ref 0, .ref 16, .ref 205, .int x3], [.int 3, .int x3, .ref 0, .int (M 0 (x3 + 2).toNatClampNeg), .int (M 0 (x3 + 1).toNatClampNeg), .ref 16], hp nS M)) (am_cF_to (by with_unfolding_all rfl)) rfl (by with_unfolding_all rfl)).trans ?_
  show am_Wp _ 0 1306 _ _ _ _ = _
  refine (eq_step (e := (.iadd, 1, 0, 0, 0)) (q := (1307, [.ref 0, .ref 16, .ref 205, .int x3], [.int (x3 + 3), .ref 0, .int (M 0 (x3 + 2).toNatClampNeg), .int (M 0 (x3 + 1).toNatClampNeg), .ref 16], hp nS M)) (am_cF_to (by with_unfolding_all rfl)) rfl (by with_unfolding_all rfl)).trans ?_
  show am_Wp _ 0 1307 _ _ _ _ = _
  refine (eq_ald (e := (.iaload, 1, 0, 0, 0)) (by with_unfolding_all rfl) rfl (n := nS) (by with_unfolding_all rfl) h3).trans ?_
  show am_Wp _ 0 1308 _ _ _ _ = _
  exact eq_call2 (e := (.invokevirtual 155, 3, 0, 162, 265)) (as := [.ref 16, .int (M 0 (x3 + 1).toNatClampNeg), .int (M 0 (x3 + 2).toNatClampNeg), .int (M 0 (x3 + 3).toNatClampNeg)]) (r := []) (n := 4) (m := 4) (by with_unfolding_all rfl) rfl (by decide) (by with_unfolding_all rfl) (by decide) (by with_unfolding_all rfl) ⟨fun _ => am_rec_ok (c := 13) (by with_unfolding_all rfl) (by decide +kernel), fun z => by simp at z⟩
set_option maxRecDepth 20000 in
theorem b_0_1311 {d nS : Nat} {x3 s0 : Int32} {M : am_M} {Q : Option Value → am_H → Prop} (h1 : vp_in (x3 + 1) nS) (h2 : vp_in (x3 + 2) nS) (h3 : vp_in (x3 + 3) nS) : am_Wp (d + 1) 0 1311 [.ref 0, .ref 16, .ref 205, .int x3] [.int s0] (hp nS M) Q = am_Wp d 288 0 [.ref 205, .int (M 0 (x3 + 1).toNatClampNeg), .int (M 0 (x3 + 2).toNatClampNeg), .int (M 0 (x3 + 3).toNatClampNeg), .retAddr 0, .retAddr 0] [] (hp nS M) (fun v h1 => am_Wp (d + 1) 0 1330 [.ref 0, .ref 16, .ref 205, .int x3] (am_ans v [.int s0]) h1 Q) := by
  refine (eq_step (e := (.aload_n 2, 1, 0, 0, 0)) (q := (1312, [.ref 0, .ref 16, .ref 205, .int x3], [.ref 205, .int s0], hp nS M)) (am_cF_to (by with_unfolding_all rfl)) rfl (by with_unfolding_all rfl)).trans ?_
  show am_Wp _ 0 1312 _ _ _ _ = _
  refine (eq_step (e := (.aload_n 0, 1, 0, 0, 0)) (q := (1313, [.ref 0, .ref 16, .ref 205, .int x3], [.ref 0, .ref 205, .int s0], hp nS M)) (am_cF_to (by with_unfolding_all rfl)) rfl (by with_unfolding_all rfl)).trans ?_
  show am_Wp _ 0 1313 _ _ _ _ = _
  refine (eq_step (e := (.iload_n 3, 1, 0, 0, 0)) (q := (1314, [.ref 0, .ref 16, .ref 205, .int x3], [.int x3, .ref 0, .ref 205, .int s0], hp nS M)) (am_cF_to (by with_unfolding_all rfl)) rfl (by with_unfolding_all rfl)).trans ?_
  show am_Wp _ 0 1314 _ _ _ _ = _
  refine (eq_step (e := (.iconst 1, 1, 0, 0, 0)) (q := (1315, [.ref 0, .ref 16, .ref 205, .int x3], [.int 1, .int x3, .ref 0, .ref 205, .int s0], hp nS M)) (am_cF_to (by with_unfolding_all rfl)) rfl (by with_unfolding_all rfl)).trans ?_
  show am_Wp _ 0 1315 _ _ _ _ = _
  refine (eq_step (e := (.iadd, 1, 0, 0, 0)) (q := (1316, [.ref 0, .ref 16, .ref 205, .int x3], [.int (x3 + 1), .ref 0, .ref 205, .int s0], hp nS M)) (am_cF_to (by with_unfolding_all rfl)) rfl (by with_unfolding_all rfl)).trans ?_
  show am_Wp _ 0 1316 _ _ _ _ = _
  refine (eq_ald (e := (.iaload, 1, 0, 0, 0)) (by with_unfolding_all rfl) rfl (n := nS) (by with_unfolding_all rfl) h1).trans ?_
  show am_Wp _ 0 1317 _ _ _ _ = _
  refine (eq_step (e := (.aload_n 0, 1, 0, 0, 0)) (q := (1318, [.ref 0, .ref 16, .ref 205, .int x3], [.ref 0, .int (M 0 (x3 + 1).toNatClampNeg), .ref 205, .int s0], hp nS M)) (am_cF_to (by with_unfolding_all rfl)) rfl (by with_unfolding_all rfl)).trans ?_
  show am_Wp _ 0 1318 _ _ _ _ = _
  refine (eq_step (e := (.iload_n 3, 1, 0, 0, 0)) (q := (1319, [.ref 0, .ref 16, .ref 205, .int x3], [.int x3, .ref 0, .int (M 0 (x3 + 1).toNatClampNeg), .ref 205, .int s0], hp nS M)) (am_cF_to (by with_unfolding_all rfl)) rfl (by with_unfolding_all rfl)).trans ?_
  show am_Wp _ 0 1319 _ _ _ _ = _
  refine (eq_step (e := (.iconst 2, 1, 0, 0, 0)) (q := (1320, [.ref 0, .ref 16, .ref 205, .int x3], [.int 2, .int x3, .ref 0, .int (M 0 (x3 + 1).toNatClampNeg), .ref 205, .int s0], hp nS M)) (am_cF_to (by with_unfolding_all rfl)) rfl (by with_unfolding_all rfl)).trans ?_
  show am_Wp _ 0 1320 _ _ _ _ = _
  refine (eq_step (e := (.iadd, 1, 0, 0, 0)) (q := (1321, [.ref 0, .ref 16, .ref 205, .int x3], [.int (x3 + 2), .ref 0, .int (M 0 (x3 + 1).toNatClampNeg), .ref 205, .int s0], hp nS M)) (am_cF_to (by with_unfolding_all rfl)) rfl (by with_unfolding_all rfl)).trans ?_
  show am_Wp _ 0 1321 _ _ _ _ = _
  refine (eq_ald (e := (.iaload, 1, 0, 0, 0)) (by with_unfolding_all rfl) rfl (n := nS) (by with_unfolding_all rfl) h2).trans ?_
  show am_Wp _ 0 1322 _ _ _ _ = _
  refine (eq_step (e := (.aload_n 0, 1, 0, 0, 0)) (q := (1323, [.ref 0, .ref 16, .ref 205, .int x3], [.ref 0, .int (M 0 (x3 + 2).toNatClampNeg), .int (M 0 (x3 + 1).toNatClampNeg), .ref 205, .int s0], hp nS M)) (am_cF_to (by with_unfolding_all rfl)) rfl (by with_unfolding_all rfl)).trans ?_
  show am_Wp _ 0 1323 _ _ _ _ = _
  refine (eq_step (e := (.iload_n 3, 1, 0, 0, 0)) (q := (1324, [.ref 0, .ref 16, .ref 205, .int x3], [.int x3, .ref 0, .int (M 0 (x3 + 2).toNatClampNeg), .int (M 0 (x3 + 1).toNatClampNeg), .ref 205, .int s0], hp nS M)) (am_cF_to (by with_unfolding_all rfl)) rfl (by with_unfolding_all rfl)).trans ?_
  show am_Wp _ 0 1324 _ _ _ _ = _
  refine (eq_step (e := (.iconst 3, 1, 0, 0, 0)) (q := (1325, [.ref 0, .ref 16, .ref 205, .int x3], [.int 3, .int x3, .ref 0, .int (M 0 (x3 + 2).toNatClampNeg), .int (M 0 (x3 + 1).toNatClampNeg), .ref 205, .int s0], hp nS M)) (am_cF_to (by with_unfolding_all rfl)) rfl (by with_unfolding_all rfl)).trans ?_
  show am_Wp _ 0 1325 _ _ _ _ = _
  refine (eq_step (e := (.iadd, 1, 0, 0, 0)) (q := (1326, [.ref 0, .ref 16, .ref 205, .int x3], [.int (x3 + 3), .ref 0, .int (M 0 (x3 + 2).toNatClampNeg), .int (M 0 (x3 + 1).toNatClampNeg), .ref 205, .int s0], hp nS M)) (am_cF_to (by with_unfolding_all rfl)) rfl (by with_unfolding_all rfl)).trans ?_
  show am_Wp _ 0 1326 _ _ _ _ = _
  refine (eq_ald (e := (.iaload, 1, 0, 0, 0)) (by with_unfolding_all rfl) rfl (n := nS) (by with_unfolding_all rfl) h3).trans ?_
  show am_Wp _ 0 1327 _ _ _ _ = _
  exact eq_call2 (e := (.invokevirtual 158, 3, 0, 288, 266)) (as := [.ref 205, .int (M 0 (x3 + 1).toNatClampNeg), .int (M 0 (x3 + 2).toNatClampNeg), .int (M 0 (x3 + 3).toNatClampNeg)]) (r := [.int s0]) (n := 4) (m := 6) (by with_unfolding_all rfl) rfl (by decide) (by with_unfolding_all rfl) (by decide) (by with_unfolding_all rfl) ⟨fun _ => am_rec_ok (c := 14) (by with_unfolding_all rfl) (by decide +kernel), fun z => by simp at z⟩
set_option maxRecDepth 20000 in
theorem b_0_1330 {d nS : Nat} {x3 s0 s1 : Int32} {M : am_M} {Q : Option Value → am_H → Prop} : am_Wp d 0 1330 [.ref 0, .ref 16, .ref 205, .int x3] [.int s1, .int s0] (hp nS M) Q = if s0 = s1 then am_Wp d 0 1410 [.ref 0, .ref 16, .ref 205, .int x3] [] (hp nS M) Q else am_Wp d 0 1333 [.ref 0, .ref 16, .ref 205, .int x3] [] (hp nS M) Q := by
  exact eq_cmp_eq (by with_unfolding_all rfl)
set_option maxRecDepth 20000 in
theorem b_0_1333 {d nS : Nat} {x3 : Int32} {M : am_M} {Q : Option Value → am_H → Prop} : am_Wp d 0 1333 [.ref 0, .ref 16, .ref 205, .int x3] [] (hp nS M) Q = Q (some (.int 0)) (hp nS M) := by
  refine (eq_step (e := (.iconst 0, 1, 0, 0, 0)) (q := (1334, [.ref 0, .ref 16, .ref 205, .int x3], [.int 0], hp nS M)) (am_cF_to (by with_unfolding_all rfl)) rfl (by with_unfolding_all rfl)).trans ?_
  show am_Wp _ 0 1334 _ _ _ _ = _
  exact eq_retI2 (e := (.ireturn, 1, 0, 0, 0)) (t := .boolean) (by with_unfolding_all rfl) rfl (by with_unfolding_all rfl) rfl
set_option maxRecDepth 20000 in
theorem b_0_1335 {d nS : Nat} {x3 : Int32} {M : am_M} {Q : Option Value → am_H → Prop} : am_Wp (d + 1) 0 1335 [.ref 0, .ref 16, .ref 205, .int x3] [] (hp nS M) Q = am_Wp d 163 0 [.ref 16] [] (hp nS M) (fun v h1 => am_Wp (d + 1) 0 1339 [.ref 0, .ref 16, .ref 205, .int x3] (am_ans v []) h1 Q) := by
  refine (eq_step (e := (.aload_n 1, 1, 0, 0, 0)) (q := (1336, [.ref 0, .ref 16, .ref 205, .int x3], [.ref 16], hp nS M)) (am_cF_to (by with_unfolding_all rfl)) rfl (by with_unfolding_all rfl)).trans ?_
  show am_Wp _ 0 1336 _ _ _ _ = _
  exact eq_call2 (e := (.invokevirtual 159, 3, 0, 163, 267)) (as := [.ref 16]) (r := []) (n := 1) (m := 1) (by with_unfolding_all rfl) rfl (by decide) (by with_unfolding_all rfl) (by decide) (by with_unfolding_all rfl) ⟨fun _ => am_rec_ok (c := 13) (by with_unfolding_all rfl) (by decide +kernel), fun z => by simp at z⟩
set_option maxRecDepth 20000 in
theorem b_0_1339 {d nS : Nat} {x3 s0 : Int32} {M : am_M} {Q : Option Value → am_H → Prop} : am_Wp (d + 1) 0 1339 [.ref 0, .ref 16, .ref 205, .int x3] [.int s0] (hp nS M) Q = am_Wp d 168 0 [.ref 205, .retAddr 0] [] (hp nS M) (fun v h1 => am_Wp (d + 1) 0 1343 [.ref 0, .ref 16, .ref 205, .int x3] (am_ans v [.int s0]) h1 Q) := by
  refine (eq_step (e := (.aload_n 2, 1, 0, 0, 0)) (q := (1340, [.ref 0, .ref 16, .ref 205, .int x3], [.ref 205, .int s0], hp nS M)) (am_cF_to (by with_unfolding_all rfl)) rfl (by with_unfolding_all rfl)).trans ?_
  show am_Wp _ 0 1340 _ _ _ _ = _
  exact eq_call2 (e := (.invokevirtual 163, 3, 0, 168, 268)) (as := [.ref 205]) (r := [.int s0]) (n := 1) (m := 2) (by with_unfolding_all rfl) rfl (by decide) (by with_unfolding_all rfl) (by decide) (by with_unfolding_all rfl) ⟨fun _ => am_rec_ok (c := 14) (by with_unfolding_all rfl) (by decide +kernel), fun z => by simp at z⟩
set_option maxRecDepth 20000 in
theorem b_0_1343 {d nS : Nat} {x3 s0 s1 : Int32} {M : am_M} {Q : Option Value → am_H → Prop} : am_Wp d 0 1343 [.ref 0, .ref 16, .ref 205, .int x3] [.int s1, .int s0] (hp nS M) Q = if s0 = s1 then am_Wp d 0 1410 [.ref 0, .ref 16, .ref 205, .int x3] [] (hp nS M) Q else am_Wp d 0 1346 [.ref 0, .ref 16, .ref 205, .int x3] [] (hp nS M) Q := by
  exact eq_cmp_eq (by with_unfolding_all rfl)
set_option maxRecDepth 20000 in
theorem b_0_1346 {d nS : Nat} {x3 : Int32} {M : am_M} {Q : Option Value → am_H → Prop} : am_Wp d 0 1346 [.ref 0, .ref 16, .ref 205, .int x3] [] (hp nS M) Q = Q (some (.int 0)) (hp nS M) := by
  refine (eq_step (e := (.iconst 0, 1, 0, 0, 0)) (q := (1347, [.ref 0, .ref 16, .ref 205, .int x3], [.int 0], hp nS M)) (am_cF_to (by with_unfolding_all rfl)) rfl (by with_unfolding_all rfl)).trans ?_
  show am_Wp _ 0 1347 _ _ _ _ = _
  exact eq_retI2 (e := (.ireturn, 1, 0, 0, 0)) (t := .boolean) (by with_unfolding_all rfl) rfl (by with_unfolding_all rfl) rfl
set_option maxRecDepth 20000 in
theorem b_0_1348 {d nS : Nat} {x3 : Int32} {M : am_M} {Q : Option Value → am_H → Prop} (h1 : vp_in (x3 + 1) nS) : am_Wp d 0 1348 [.ref 0, .ref 16, .ref 205, .int x3] [] (hp nS M) Q = if (M 0 (x3 + 1).toNatClampNeg) = 0 then am_Wp d 0 1361 [.ref 0, .ref 16, .ref 205, .int x3] [.ref 16] (hp nS M) Q else am_Wp d 0 1357 [.ref 0, .ref 16, .ref 205, .int x3] [.ref 16] (hp nS M) Q := by
  refine (eq_step (e := (.aload_n 1, 1, 0, 0, 0)) (q := (1349, [.ref 0, .ref 16, .ref 205, .int x3], [.ref 16], hp nS M)) (am_cF_to (by with_unfolding_all rfl)) rfl (by with_unfolding_all rfl)).trans ?_
  show am_Wp _ 0 1349 _ _ _ _ = _
  refine (eq_step (e := (.aload_n 0, 1, 0, 0, 0)) (q := (1350, [.ref 0, .ref 16, .ref 205, .int x3], [.ref 0, .ref 16], hp nS M)) (am_cF_to (by with_unfolding_all rfl)) rfl (by with_unfolding_all rfl)).trans ?_
  show am_Wp _ 0 1350 _ _ _ _ = _
  refine (eq_step (e := (.iload_n 3, 1, 0, 0, 0)) (q := (1351, [.ref 0, .ref 16, .ref 205, .int x3], [.int x3, .ref 0, .ref 16], hp nS M)) (am_cF_to (by with_unfolding_all rfl)) rfl (by with_unfolding_all rfl)).trans ?_
  show am_Wp _ 0 1351 _ _ _ _ = _
  refine (eq_step (e := (.iconst 1, 1, 0, 0, 0)) (q := (1352, [.ref 0, .ref 16, .ref 205, .int x3], [.int 1, .int x3, .ref 0, .ref 16], hp nS M)) (am_cF_to (by with_unfolding_all rfl)) rfl (by with_unfolding_all rfl)).trans ?_
  show am_Wp _ 0 1352 _ _ _ _ = _
  refine (eq_step (e := (.iadd, 1, 0, 0, 0)) (q := (1353, [.ref 0, .ref 16, .ref 205, .int x3], [.int (x3 + 1), .ref 0, .ref 16], hp nS M)) (am_cF_to (by with_unfolding_all rfl)) rfl (by with_unfolding_all rfl)).trans ?_
  show am_Wp _ 0 1353 _ _ _ _ = _
  refine (eq_ald (e := (.iaload, 1, 0, 0, 0)) (by with_unfolding_all rfl) rfl (n := nS) (by with_unfolding_all rfl) h1).trans ?_
  show am_Wp _ 0 1354 _ _ _ _ = _
  exact eq_if_eq (by with_unfolding_all rfl)
set_option maxRecDepth 20000 in
theorem b_0_1357 {d nS : Nat} {x3 : Int32} {M : am_M} {Q : Option Value → am_H → Prop} : am_Wp d 0 1357 [.ref 0, .ref 16, .ref 205, .int x3] [.ref 16] (hp nS M) Q = am_Wp d 0 1362 [.ref 0, .ref 16, .ref 205, .int x3] [.int 1, .ref 16] (hp nS M) Q := by
  refine (eq_step (e := (.iconst 1, 1, 0, 0, 0)) (q := (1358, [.ref 0, .ref 16, .ref 205, .int x3], [.int 1, .ref 16], hp nS M)) (am_cF_to (by with_unfolding_all rfl)) rfl (by with_unfolding_all rfl)).trans ?_
  show am_Wp _ 0 1358 _ _ _ _ = _
  exact eq_step (e := (.goto 4, 3, 1362, 0, 0)) (q := (1362, [.ref 0, .ref 16, .ref 205, .int x3], [.int 1, .ref 16], hp nS M)) (am_cF_to (by with_unfolding_all rfl)) rfl (by with_unfolding_all rfl)
set_option maxRecDepth 20000 in
theorem b_0_1361 {d nS : Nat} {x3 : Int32} {M : am_M} {Q : Option Value → am_H → Prop} : am_Wp d 0 1361 [.ref 0, .ref 16, .ref 205, .int x3] [.ref 16] (hp nS M) Q = am_Wp d 0 1362 [.ref 0, .ref 16, .ref 205, .int x3] [.int 0, .ref 16] (hp nS M) Q := by
  exact eq_step (e := (.iconst 0, 1, 0, 0, 0)) (q := (1362, [.ref 0, .ref 16, .ref 205, .int x3], [.int 0, .ref 16], hp nS M)) (am_cF_to (by with_unfolding_all rfl)) rfl (by with_unfolding_all rfl)
set_option maxRecDepth 20000 in
theorem b_0_1362 {d nS : Nat} {x3 s1 : Int32} {M : am_M} {Q : Option Value → am_H → Prop} : am_Wp (d + 1) 0 1362 [.ref 0, .ref 16, .ref 205, .int x3] [.int s1, .ref 16] (hp nS M) Q = am_Wp d 164 0 [.ref 16, .int s1] [] (hp nS M) (fun v h1 => am_Wp (d + 1) 0 1365 [.ref 0, .ref 16, .ref 205, .int x3] (am_ans v []) h1 Q) := by
  exact eq_call2 (e := (.invokevirtual 164, 3, 0, 164, 269)) (as := [.ref 16, .int s1]) (r := []) (n := 2) (m := 2) (by with_unfolding_all rfl) rfl (by decide) (by with_unfolding_all rfl) (by decide) (by with_unfolding_all rfl) ⟨fun _ => am_rec_ok (c := 13) (by with_unfolding_all rfl) (by decide +kernel), fun z => by simp at z⟩
set_option maxRecDepth 20000 in
theorem b_0_1365 {d nS : Nat} {x3 s0 : Int32} {M : am_M} {Q : Option Value → am_H → Prop} (h1 : vp_in (x3 + 1) nS) : am_Wp d 0 1365 [.ref 0, .ref 16, .ref 205, .int x3] [.int s0] (hp nS M) Q = if (M 0 (x3 + 1).toNatClampNeg) = 0 then am_Wp d 0 1378 [.ref 0, .ref 16, .ref 205, .int x3] [.ref 205, .int s0] (hp nS M) Q else am_Wp d 0 1374 [.ref 0, .ref 16, .ref 205, .int x3] [.ref 205, .int s0] (hp nS M) Q := by
  refine (eq_step (e := (.aload_n 2, 1, 0, 0, 0)) (q := (1366, [.ref 0, .ref 16, .ref 205, .int x3], [.ref 205, .int s0], hp nS M)) (am_cF_to (by with_unfolding_all rfl)) rfl (by with_unfolding_all rfl)).trans ?_
  show am_Wp _ 0 1366 _ _ _ _ = _
  refine (eq_step (e := (.aload_n 0, 1, 0, 0, 0)) (q := (1367, [.ref 0, .ref 16, .ref 205, .int x3], [.ref 0, .ref 205, .int s0], hp nS M)) (am_cF_to (by with_unfolding_all rfl)) rfl (by with_unfolding_all rfl)).trans ?_
  show am_Wp _ 0 1367 _ _ _ _ = _
  refine (eq_step (e := (.iload_n 3, 1, 0, 0, 0)) (q := (1368, [.ref 0, .ref 16, .ref 205, .int x3], [.int x3, .ref 0, .ref 205, .int s0], hp nS M)) (am_cF_to (by with_unfolding_all rfl)) rfl (by with_unfolding_all rfl)).trans ?_
  show am_Wp _ 0 1368 _ _ _ _ = _
  refine (eq_step (e := (.iconst 1, 1, 0, 0, 0)) (q := (1369, [.ref 0, .ref 16, .ref 205, .int x3], [.int 1, .int x3, .ref 0, .ref 205, .int s0], hp nS M)) (am_cF_to (by with_unfolding_all rfl)) rfl (by with_unfolding_all rfl)).trans ?_
  show am_Wp _ 0 1369 _ _ _ _ = _
  refine (eq_step (e := (.iadd, 1, 0, 0, 0)) (q := (1370, [.ref 0, .ref 16, .ref 205, .int x3], [.int (x3 + 1), .ref 0, .ref 205, .int s0], hp nS M)) (am_cF_to (by with_unfolding_all rfl)) rfl (by with_unfolding_all rfl)).trans ?_
  show am_Wp _ 0 1370 _ _ _ _ = _
  refine (eq_ald (e := (.iaload, 1, 0, 0, 0)) (by with_unfolding_all rfl) rfl (n := nS) (by with_unfolding_all rfl) h1).trans ?_
  show am_Wp _ 0 1371 _ _ _ _ = _
  exact eq_if_eq (by with_unfolding_all rfl)
set_option maxRecDepth 20000 in
theorem b_0_1374 {d nS : Nat} {x3 s0 : Int32} {M : am_M} {Q : Option Value → am_H → Prop} : am_Wp d 0 1374 [.ref 0, .ref 16, .ref 205, .int x3] [.ref 205, .int s0] (hp nS M) Q = am_Wp d 0 1379 [.ref 0, .ref 16, .ref 205, .int x3] [.int 1, .ref 205, .int s0] (hp nS M) Q := by
  refine (eq_step (e := (.iconst 1, 1, 0, 0, 0)) (q := (1375, [.ref 0, .ref 16, .ref 205, .int x3], [.int 1, .ref 205, .int s0], hp nS M)) (am_cF_to (by with_unfolding_all rfl)) rfl (by with_unfolding_all rfl)).trans ?_
  show am_Wp _ 0 1375 _ _ _ _ = _
  exact eq_step (e := (.goto 4, 3, 1379, 0, 0)) (q := (1379, [.ref 0, .ref 16, .ref 205, .int x3], [.int 1, .ref 205, .int s0], hp nS M)) (am_cF_to (by with_unfolding_all rfl)) rfl (by with_unfolding_all rfl)
set_option maxRecDepth 20000 in
theorem b_0_1378 {d nS : Nat} {x3 s0 : Int32} {M : am_M} {Q : Option Value → am_H → Prop} : am_Wp d 0 1378 [.ref 0, .ref 16, .ref 205, .int x3] [.ref 205, .int s0] (hp nS M) Q = am_Wp d 0 1379 [.ref 0, .ref 16, .ref 205, .int x3] [.int 0, .ref 205, .int s0] (hp nS M) Q := by
  exact eq_step (e := (.iconst 0, 1, 0, 0, 0)) (q := (1379, [.ref 0, .ref 16, .ref 205, .int x3], [.int 0, .ref 205, .int s0], hp nS M)) (am_cF_to (by with_unfolding_all rfl)) rfl (by with_unfolding_all rfl)
set_option maxRecDepth 20000 in
theorem b_0_1379 {d nS : Nat} {x3 s0 s2 : Int32} {M : am_M} {Q : Option Value → am_H → Prop} : am_Wp (d + 1) 0 1379 [.ref 0, .ref 16, .ref 205, .int x3] [.int s2, .ref 205, .int s0] (hp nS M) Q = am_Wp d 290 0 [.ref 205, .int s2, .retAddr 0] [] (hp nS M) (fun v h1 => am_Wp (d + 1) 0 1382 [.ref 0, .ref 16, .ref 205, .int x3] (am_ans v [.int s0]) h1 Q) := by
  exact eq_call2 (e := (.invokevirtual 168, 3, 0, 290, 270)) (as := [.ref 205, .int s2]) (r := [.int s0]) (n := 2) (m := 3) (by with_unfolding_all rfl) rfl (by decide) (by with_unfolding_all rfl) (by decide) (by with_unfolding_all rfl) ⟨fun _ => am_rec_ok (c := 14) (by with_unfolding_all rfl) (by decide +kernel), fun z => by simp at z⟩
set_option maxRecDepth 20000 in
theorem b_0_1382 {d nS : Nat} {x3 s0 s1 : Int32} {M : am_M} {Q : Option Value → am_H → Prop} : am_Wp d 0 1382 [.ref 0, .ref 16, .ref 205, .int x3] [.int s1, .int s0] (hp nS M) Q = if s0 = s1 then am_Wp d 0 1410 [.ref 0, .ref 16, .ref 205, .int x3] [] (hp nS M) Q else am_Wp d 0 1385 [.ref 0, .ref 16, .ref 205, .int x3] [] (hp nS M) Q := by
  exact eq_cmp_eq (by with_unfolding_all rfl)
set_option maxRecDepth 20000 in
theorem b_0_1385 {d nS : Nat} {x3 : Int32} {M : am_M} {Q : Option Value → am_H → Prop} : am_Wp d 0 1385 [.ref 0, .ref 16, .ref 205, .int x3] [] (hp nS M) Q = Q (some (.int 0)) (hp nS M) := by
  refine (eq_step (e := (.iconst 0, 1, 0, 0, 0)) (q := (1386, [.ref 0, .ref 16, .ref 205, .int x3], [.int 0], hp nS M)) (am_cF_to (by with_unfolding_all rfl)) rfl (by with_unfolding_all rfl)).trans ?_
  show am_Wp _ 0 1386 _ _ _ _ = _
  exact eq_retI2 (e := (.ireturn, 1, 0, 0, 0)) (t := .boolean) (by with_unfolding_all rfl) rfl (by with_unfolding_all rfl) rfl
set_option maxRecDepth 20000 in
theorem b_0_1387 {d nS : Nat} {x3 : Int32} {M : am_M} {Q : Option Value → am_H → Prop} (h1 : vp_in (x3 + 1) nS) : am_Wp (d + 1) 0 1387 [.ref 0, .ref 16, .ref 205, .int x3] [] (hp nS M) Q = am_Wp d 165 0 [.ref 16, .int (M 0 (x3 + 1).toNatClampNeg), .retAddr 0] [] (hp nS M) (fun v h1 => am_Wp (d + 1) 0 1396 [.ref 0, .ref 16, .ref 205, .int x3] (am_ans v []) h1 Q) := by
  refine (eq_step (e := (.aload_n 1, 1, 0, 0, 0)) (q := (1388, [.ref 0, .ref 16, .ref 205, .int x3], [.ref 16], hp nS M)) (am_cF_to (by with_unfolding_all rfl)) rfl (by with_unfolding_all rfl)).trans ?_
  show am_Wp _ 0 1388 _ _ _ _ = _
  refine (eq_step (e := (.aload_n 0, 1, 0, 0, 0)) (q := (1389, [.ref 0, .ref 16, .ref 205, .int x3], [.ref 0, .ref 16], hp nS M)) (am_cF_to (by with_unfolding_all rfl)) rfl (by with_unfolding_all rfl)).trans ?_
  show am_Wp _ 0 1389 _ _ _ _ = _
  refine (eq_step (e := (.iload_n 3, 1, 0, 0, 0)) (q := (1390, [.ref 0, .ref 16, .ref 205, .int x3], [.int x3, .ref 0, .ref 16], hp nS M)) (am_cF_to (by with_unfolding_all rfl)) rfl (by with_unfolding_all rfl)).trans ?_
  show am_Wp _ 0 1390 _ _ _ _ = _
  refine (eq_step (e := (.iconst 1, 1, 0, 0, 0)) (q := (1391, [.ref 0, .ref 16, .ref 205, .int x3], [.int 1, .int x3, .ref 0, .ref 16], hp nS M)) (am_cF_to (by with_unfolding_all rfl)) rfl (by with_unfolding_all rfl)).trans ?_
  show am_Wp _ 0 1391 _ _ _ _ = _
  refine (eq_step (e := (.iadd, 1, 0, 0, 0)) (q := (1392, [.ref 0, .ref 16, .ref 205, .int x3], [.int (x3 + 1), .ref 0, .ref 16], hp nS M)) (am_cF_to (by with_unfolding_all rfl)) rfl (by with_unfolding_all rfl)).trans ?_
  show am_Wp _ 0 1392 _ _ _ _ = _
  refine (eq_ald (e := (.iaload, 1, 0, 0, 0)) (by with_unfolding_all rfl) rfl (n := nS) (by with_unfolding_all rfl) h1).trans ?_
  show am_Wp _ 0 1393 _ _ _ _ = _
  exact eq_call2 (e := (.invokevirtual 169, 3, 0, 165, 271)) (as := [.ref 16, .int (M 0 (x3 + 1).toNatClampNeg)]) (r := []) (n := 2) (m := 3) (by with_unfolding_all rfl) rfl (by decide) (by with_unfolding_all rfl) (by decide) (by with_unfolding_all rfl) ⟨fun _ => am_rec_ok (c := 13) (by with_unfolding_all rfl) (by decide +kernel), fun z => by simp at z⟩
set_option maxRecDepth 20000 in
theorem b_0_1396 {d nS : Nat} {x3 s0 : Int32} {M : am_M} {Q : Option Value → am_H → Prop} (h1 : vp_in (x3 + 1) nS) : am_Wp (d + 1) 0 1396 [.ref 0, .ref 16, .ref 205, .int x3] [.int s0] (hp nS M) Q = am_Wp d 294 0 [.ref 205, .int (M 0 (x3 + 1).toNatClampNeg)] [] (hp nS M) (fun v h1 => am_Wp (d + 1) 0 1405 [.ref 0, .ref 16, .ref 205, .int x3] (am_ans v [.int s0]) h1 Q) := by
  refine (eq_step (e := (.aload_n 2, 1, 0, 0, 0)) (q := (1397, [.ref 0, .ref 16, .ref 205, .int x3], [.ref 205, .int s0], hp nS M)) (am_cF_to (by with_unfolding_all rfl)) rfl (by with_unfolding_all rfl)).trans ?_
  show am_Wp _ 0 1397 _ _ _ _ = _
  refine (eq_step (e := (.aload_n 0, 1, 0, 0, 0)) (q := (1398, [.ref 0, .ref 16, .ref 205, .int x3], [.ref 0, .ref 205, .int s0], hp nS M)) (am_cF_to (by with_unfolding_all rfl)) rfl (by with_unfolding_all rfl)).trans ?_
  show am_Wp _ 0 1398 _ _ _ _ = _
  refine (eq_step (e := (.iload_n 3, 1, 0, 0, 0)) (q := (1399, [.ref 0, .ref 16, .ref 205, .int x3], [.int x3, .ref 0, .ref 205, .int s0], hp nS M)) (am_cF_to (by with_unfolding_all rfl)) rfl (by with_unfolding_all rfl)).trans ?_
  show am_Wp _ 0 1399 _ _ _ _ = _
  refine (eq_step (e := (.iconst 1, 1, 0, 0, 0)) (q := (1400, [.ref 0, .ref 16, .ref 205, .int x3], [.int 1, .int x3, .ref 0, .ref 205, .int s0], hp nS M)) (am_cF_to (by with_unfolding_all rfl)) rfl (by with_unfolding_all rfl)).trans ?_
  show am_Wp _ 0 1400 _ _ _ _ = _
  refine (eq_step (e := (.iadd, 1, 0, 0, 0)) (q := (1401, [.ref 0, .ref 16, .ref 205, .int x3], [.int (x3 + 1), .ref 0, .ref 205, .int s0], hp nS M)) (am_cF_to (by with_unfolding_all rfl)) rfl (by with_unfolding_all rfl)).trans ?_
  show am_Wp _ 0 1401 _ _ _ _ = _
  refine (eq_ald (e := (.iaload, 1, 0, 0, 0)) (by with_unfolding_all rfl) rfl (n := nS) (by with_unfolding_all rfl) h1).trans ?_
  show am_Wp _ 0 1402 _ _ _ _ = _
  exact eq_call2 (e := (.invokevirtual 172, 3, 0, 294, 272)) (as := [.ref 205, .int (M 0 (x3 + 1).toNatClampNeg)]) (r := [.int s0]) (n := 2) (m := 2) (by with_unfolding_all rfl) rfl (by decide) (by with_unfolding_all rfl) (by decide) (by with_unfolding_all rfl) ⟨fun _ => am_rec_ok (c := 14) (by with_unfolding_all rfl) (by decide +kernel), fun z => by simp at z⟩
set_option maxRecDepth 20000 in
theorem b_0_1405 {d nS : Nat} {x3 s0 s1 : Int32} {M : am_M} {Q : Option Value → am_H → Prop} : am_Wp d 0 1405 [.ref 0, .ref 16, .ref 205, .int x3] [.int s1, .int s0] (hp nS M) Q = if s0 = s1 then am_Wp d 0 1410 [.ref 0, .ref 16, .ref 205, .int x3] [] (hp nS M) Q else am_Wp d 0 1408 [.ref 0, .ref 16, .ref 205, .int x3] [] (hp nS M) Q := by
  exact eq_cmp_eq (by with_unfolding_all rfl)
set_option maxRecDepth 20000 in
theorem b_0_1408 {d nS : Nat} {x3 : Int32} {M : am_M} {Q : Option Value → am_H → Prop} : am_Wp d 0 1408 [.ref 0, .ref 16, .ref 205, .int x3] [] (hp nS M) Q = Q (some (.int 0)) (hp nS M) := by
  refine (eq_step (e := (.iconst 0, 1, 0, 0, 0)) (q := (1409, [.ref 0, .ref 16, .ref 205, .int x3], [.int 0], hp nS M)) (am_cF_to (by with_unfolding_all rfl)) rfl (by with_unfolding_all rfl)).trans ?_
  show am_Wp _ 0 1409 _ _ _ _ = _
  exact eq_retI2 (e := (.ireturn, 1, 0, 0, 0)) (t := .boolean) (by with_unfolding_all rfl) rfl (by with_unfolding_all rfl) rfl
set_option maxRecDepth 20000 in
theorem b_0_1410 {d nS : Nat} {x3 : Int32} {M : am_M} {Q : Option Value → am_H → Prop} : am_Wp d 0 1410 [.ref 0, .ref 16, .ref 205, .int x3] [] (hp nS M) Q = am_Wp d 0 18 [.ref 0, .ref 16, .ref 205, .int (x3 + 6)] [] (hp nS M) Q := by
  refine (eq_step (e := (.iinc 3 6, 3, 0, 0, 0)) (q := (1413, [.ref 0, .ref 16, .ref 205, .int (x3 + 6)], [], hp nS M)) (am_cF_to (by with_unfolding_all rfl)) rfl (by with_unfolding_all rfl)).trans ?_
  show am_Wp _ 0 1413 _ _ _ _ = _
  exact eq_step (e := (.goto (-1395), 3, 18, 0, 0)) (q := (18, [.ref 0, .ref 16, .ref 205, .int (x3 + 6)], [], hp nS M)) (am_cF_to (by with_unfolding_all rfl)) rfl (by with_unfolding_all rfl)
set_option maxRecDepth 20000 in
theorem b_0_1416 {d nS : Nat} {x3 : Int32} {M : am_M} {Q : Option Value → am_H → Prop} : am_Wp d 0 1416 [.ref 0, .ref 16, .ref 205, .int x3] [] (hp nS M) Q = Q (some (.int 1)) (hp nS M) := by
  refine (eq_step (e := (.iconst 1, 1, 0, 0, 0)) (q := (1417, [.ref 0, .ref 16, .ref 205, .int x3], [.int 1], hp nS M)) (am_cF_to (by with_unfolding_all rfl)) rfl (by with_unfolding_all rfl)).trans ?_
  show am_Wp _ 0 1417 _ _ _ _ = _
  exact eq_retI2 (e := (.ireturn, 1, 0, 0, 0)) (t := .boolean) (by with_unfolding_all rfl) rfl (by with_unfolding_all rfl) rfl
