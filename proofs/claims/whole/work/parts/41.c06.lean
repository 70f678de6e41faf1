-- LarkExchange$World moves(III)V (112, (101, None, None, None))
set_option maxRecDepth 20000 in
theorem b_112i1_0 {d nS : Nat} {x1 x2 x3 : Int32} {M : am_M} {Q : Option Value → am_H → Prop} (h1 : vp_in ((x1 * 8) + x2) 80) (h2 : vp_in ((x1 * 8) + x2) 80) (h3 : vp_in x1 10) (h4 : vp_in x2 8) (h5 : vp_in x1 10) : am_Wp d 112 0 [.ref 101, .int x1, .int x2, .int x3] [] (hp nS M) Q = Q none (hp nS (am_up (am_up M 112 ((x1 * 8) + x2).toNatClampNeg ((M 112 ((x1 * 8) + x2).toNatClampNeg) + x3)) 110 x1.toNatClampNeg (((am_up M 112 ((x1 * 8) + x2).toNatClampNeg ((M 112 ((x1 * 8) + x2).toNatClampNeg) + x3)) 110 x1.toNatClampNeg) - (x3 * ((am_up M 112 ((x1 * 8) + x2).toNatClampNeg ((M 112 ((x1 * 8) + x2).toNatClampNeg) + x3)) 109 x2.toNatClampNeg))))) := by
  refine (eq_run 8 (q := (11, [.ref 101, .int x1, .int x2, .int x3], [.int ((x1 * 8) + x2), .ref 112, .int ((x1 * 8) + x2), .ref 112], hp nS M)) (by with_unfolding_all rfl)).trans ?_
  refine (eq_ald (e := (.iaload, 1, 0, 0, 0)) (by with_unfolding_all rfl) rfl (n := 80) (by with_unfolding_all rfl) h1).trans ?_
  refine (eq_run 2 (q := (14, [.ref 101, .int x1, .int x2, .int x3], [.int ((M 112 ((x1 * 8) + x2).toNatClampNeg) + x3), .int ((x1 * 8) + x2), .ref 112], hp nS M)) (by with_unfolding_all rfl)).trans ?_
  refine (eq_ast (e := (.iastore, 1, 0, 0, 0)) (by with_unfolding_all rfl) rfl (n := 80) (by with_unfolding_all rfl) (by decide) h2).trans ?_
  refine (eq_run 4 (q := (21, [.ref 101, .int x1, .int x2, .int x3], [.int x1, .ref 110, .int x1, .ref 110], hp nS (am_up M 112 ((x1 * 8) + x2).toNatClampNeg ((M 112 ((x1 * 8) + x2).toNatClampNeg) + x3)))) (by with_unfolding_all rfl)).trans ?_
  refine (eq_ald (e := (.iaload, 1, 0, 0, 0)) (by with_unfolding_all rfl) rfl (n := 10) (by with_unfolding_all rfl) h3).trans ?_
  refine (eq_run 4 (q := (28, [.ref 101, .int x1, .int x2, .int x3], [.int x2, .ref 109, .int x3, .int ((am_up M 112 ((x1 * 8) + x2).toNatClampNeg ((M 112 ((x1 * 8) + x2).toNatClampNeg) + x3)) 110 x1.toNatClampNeg), .int x1, .ref 110], hp nS (am_up M 112 ((x1 * 8) + x2).toNatClampNeg ((M 112 ((x1 * 8) + x2).toNatClampNeg) + x3)))) (by with_unfolding_all rfl)).trans ?_
  refine (eq_ald (e := (.iaload, 1, 0, 0, 0)) (by with_unfolding_all rfl) rfl (n := 8) (by with_unfolding_all rfl) h4).trans ?_
  refine (eq_run 2 (q := (31, [.ref 101, .int x1, .int x2, .int x3], [.int (((am_up M 112 ((x1 * 8) + x2).toNatClampNeg ((M 112 ((x1 * 8) + x2).toNatClampNeg) + x3)) 110 x1.toNatClampNeg) - (x3 * ((am_up M 112 ((x1 * 8) + x2).toNatClampNeg ((M 112 ((x1 * 8) + x2).toNatClampNeg) + x3)) 109 x2.toNatClampNeg))), .int x1, .ref 110], hp nS (am_up M 112 ((x1 * 8) + x2).toNatClampNeg ((M 112 ((x1 * 8) + x2).toNatClampNeg) + x3)))) (by with_unfolding_all rfl)).trans ?_
  refine (eq_ast (e := (.iastore, 1, 0, 0, 0)) (by with_unfolding_all rfl) rfl (n := 10) (by with_unfolding_all rfl) (by decide) h5).trans ?_
  exact eq_retV2 (e := (.return_, 1, 0, 0, 0)) (by with_unfolding_all rfl) rfl (by with_unfolding_all rfl)
-- LarkExchange$World finds(I)V (113, (18, None))
set_option maxRecDepth 20000 in
theorem b_113_0 {d nS : Nat} {x1 : Int32} {M : am_M} {Q : Option Value → am_H → Prop} (h1 : vp_in x1 6) : am_Wp d 113 0 [.ref 18, .int x1] [] (hp nS M) Q = if ¬ (M 22 x1.toNatClampNeg) = 1 then am_Wp d 113 24 [.ref 18, .int x1] [] (hp nS M) Q else am_Wp d 113 10 [.ref 18, .int x1] [] (hp nS M) Q := by
  refine (eq_run 3 (q := (5, [.ref 18, .int x1], [.int x1, .ref 22], hp nS M)) (by with_unfolding_all rfl)).trans ?_
  refine (eq_ald (e := (.iaload, 1, 0, 0, 0)) (by with_unfolding_all rfl) rfl (n := 6) (by with_unfolding_all rfl) h1).trans ?_
  refine (eq_run 1 (q := (7, [.ref 18, .int x1], [.int 1, .int (M 22 x1.toNatClampNeg)], hp nS M)) (by with_unfolding_all rfl)).trans ?_
  exact eq_cmp_ne (by with_unfolding_all rfl)
set_option maxRecDepth 20000 in
theorem b_113_10 {d nS : Nat} {x1 : Int32} {M : am_M} {Q : Option Value → am_H → Prop} (h1 : vp_in x1 6) (h2 : vp_in x1 6) : am_Wp d 113 10 [.ref 18, .int x1] [] (hp nS M) Q = am_Wp d 113 24 [.ref 18, .int x1] [] (hp nS (am_up (am_up M 22 x1.toNatClampNeg 0) 20 x1.toNatClampNeg 0)) Q := by
  refine (eq_run 4 (q := (16, [.ref 18, .int x1], [.int 0, .int x1, .ref 22], hp nS M)) (by with_unfolding_all rfl)).trans ?_
  refine (eq_ast (e := (.iastore, 1, 0, 0, 0)) (by with_unfolding_all rfl) rfl (n := 6) (by with_unfolding_all rfl) (by decide) h1).trans ?_
  refine (eq_run 4 (q := (23, [.ref 18, .int x1], [.int 0, .int x1, .ref 20], hp nS (am_up M 22 x1.toNatClampNeg 0))) (by with_unfolding_all rfl)).trans ?_
  exact eq_ast (e := (.iastore, 1, 0, 0, 0)) (by with_unfolding_all rfl) rfl (n := 6) (by with_unfolding_all rfl) (by decide) h2
set_option maxRecDepth 20000 in
theorem b_113_24 {d nS : Nat} {x1 : Int32} {M : am_M} {Q : Option Value → am_H → Prop} : am_Wp d 113 24 [.ref 18, .int x1] [] (hp nS M) Q = Q none (hp nS M) := by
  exact eq_retV2 (e := (.return_, 1, 0, 0, 0)) (by with_unfolding_all rfl) rfl (by with_unfolding_all rfl)
-- LarkExchange$World finds(I)V (113, (101, None))
set_option maxRecDepth 20000 in
theorem b_113i1_0 {d nS : Nat} {x1 : Int32} {M : am_M} {Q : Option Value → am_H → Prop} (h1 : vp_in x1 6) : am_Wp d 113 0 [.ref 101, .int x1] [] (hp nS M) Q = if ¬ (M 105 x1.toNatClampNeg) = 1 then am_Wp d 113 24 [.ref 101, .int x1] [] (hp nS M) Q else am_Wp d 113 10 [.ref 101, .int x1] [] (hp nS M) Q := by
  refine (eq_run 3 (q := (5, [.ref 101, .int x1], [.int x1, .ref 105], hp nS M)) (by with_unfolding_all rfl)).trans ?_
  refine (eq_ald (e := (.iaload, 1, 0, 0, 0)) (by with_unfolding_all rfl) rfl (n := 6) (by with_unfolding_all rfl) h1).trans ?_
  refine (eq_run 1 (q := (7, [.ref 101, .int x1], [.int 1, .int (M 105 x1.toNatClampNeg)], hp nS M)) (by with_unfolding_all rfl)).trans ?_
  exact eq_cmp_ne (by with_unfolding_all rfl)
set_option maxRecDepth 20000 in
theorem b_113i1_10 {d nS : Nat} {x1 : Int32} {M : am_M} {Q : Option Value → am_H → Prop} (h1 : vp_in x1 6) (h2 : vp_in x1 6) : am_Wp d 113 10 [.ref 101, .int x1] [] (hp nS M) Q = am_Wp d 113 24 [.ref 101, .int x1] [] (hp nS (am_up (am_up M 105 x1.toNatClampNeg 0) 103 x1.toNatClampNeg 0)) Q := by
  refine (eq_run 4 (q := (16, [.ref 101, .int x1], [.int 0, .int x1, .ref 105], hp nS M)) (by with_unfolding_all rfl)).trans ?_
  refine (eq_ast (e := (.iastore, 1, 0, 0, 0)) (by with_unfolding_all rfl) rfl (n := 6) (by with_unfolding_all rfl) (by decide) h1).trans ?_
  refine (eq_run 4 (q := (23, [.ref 101, .int x1], [.int 0, .int x1, .ref 103], hp nS (am_up M 105 x1.toNatClampNeg 0))) (by with_unfolding_all rfl)).trans ?_
  exact eq_ast (e := (.iastore, 1, 0, 0, 0)) (by with_unfolding_all rfl) rfl (n := 6) (by with_unfolding_all rfl) (by decide) h2
set_option maxRecDepth 20000 in
theorem b_113i1_24 {d nS : Nat} {x1 : Int32} {M : am_M} {Q : Option Value → am_H → Prop} : am_Wp d 113 24 [.ref 101, .int x1] [] (hp nS M) Q = Q none (hp nS M) := by
  exact eq_retV2 (e := (.return_, 1, 0, 0, 0)) (by with_unfolding_all rfl) rfl (by with_unfolding_all rfl)
-- LarkExchange$World rises(II)V (114, (18, None, None))
set_option maxRecDepth 20000 in
theorem b_114_0 {d nS : Nat} {x1 x2 : Int32} {M : am_M} {Q : Option Value → am_H → Prop} (h1 : vp_in x1 6) : am_Wp (d + 1) 114 0 [.ref 18, .int x1, .int x2] [] (hp nS M) Q = am_Wp d 296 0 [.int 999, .int ((M 20 x1.toNatClampNeg) + x2)] [] (hp nS M) (fun v h1 => am_Wp (d + 1) 114 19 [.ref 18, .int x1, .int x2] (am_ans v [.int x1, .ref 20]) h1 Q) := by
  refine (eq_run 7 (q := (13, [.ref 18, .int x1, .int x2], [.int x1, .ref 20, .int 999, .int x1, .ref 20], hp nS M)) (by with_unfolding_all rfl)).trans ?_
  refine (eq_ald (e := (.iaload, 1, 0, 0, 0)) (by with_unfolding_all rfl) rfl (n := 6) (by with_unfolding_all rfl) h1).trans ?_
  refine (eq_run 2 (q := (16, [.ref 18, .int x1, .int x2], [.int ((M 20 x1.toNatClampNeg) + x2), .int 999, .int x1, .ref 20], hp nS M)) (by with_unfolding_all rfl)).trans ?_
  exact eq_call2 (e := (.invokestatic 83, 3, 1, 296, 190)) (as := [.int 999, .int ((M 20 x1.toNatClampNeg) + x2)]) (r := [.int x1, .ref 20]) (n := 2) (m := 2) (by with_unfolding_all rfl) rfl (by decide) (by with_unfolding_all rfl) (by decide) (by with_unfolding_all rfl) ⟨fun z => absurd z (by decide), fun z => by simp at z⟩
set_option maxRecDepth 20000 in
theorem b_114_19 {d nS : Nat} {x1 x2 s1 s2 : Int32} {M : am_M} {Q : Option Value → am_H → Prop} (h1 : vp_in s1 6) (h2 : vp_in x1 6) (h3 : vp_in x1 6) : am_Wp (d + 1) 114 19 [.ref 18, .int x1, .int x2] [.int s2, .int s1, .ref 20] (hp nS M) Q = am_Wp d 297 0 [.int ((am_up M 20 s1.toNatClampNeg s2) 21 x1.toNatClampNeg), .int ((am_up M 20 s1.toNatClampNeg s2) 20 x1.toNatClampNeg)] [] (hp nS (am_up M 20 s1.toNatClampNeg s2)) (fun v h1 => am_Wp (d + 1) 114 40 [.ref 18, .int x1, .int x2] (am_ans v [.int x1, .ref 21]) h1 Q) := by
  refine (eq_ast (e := (.iastore, 1, 0, 0, 0)) (by with_unfolding_all rfl) rfl (n := 6) (by with_unfolding_all rfl) (by decide) h1).trans ?_
  refine (eq_run 6 (q := (30, [.ref 18, .int x1, .int x2], [.int x1, .ref 21, .int x1, .ref 21], hp nS (am_up M 20 s1.toNatClampNeg s2))) (by with_unfolding_all rfl)).trans ?_
  refine (eq_ald (e := (.iaload, 1, 0, 0, 0)) (by with_unfolding_all rfl) rfl (n := 6) (by with_unfolding_all rfl) h2).trans ?_
  refine (eq_run 3 (q := (36, [.ref 18, .int x1, .int x2], [.int x1, .ref 20, .int ((am_up M 20 s1.toNatClampNeg s2) 21 x1.toNatClampNeg), .int x1, .ref 21], hp nS (am_up M 20 s1.toNatClampNeg s2))) (by with_unfolding_all rfl)).trans ?_
  refine (eq_ald (e := (.iaload, 1, 0, 0, 0)) (by with_unfolding_all rfl) rfl (n := 6) (by with_unfolding_all rfl) h3).trans ?_
  exact eq_call2 (e := (.invokestatic 89, 3, 1, 297, 191)) (as := [.int ((am_up M 20 s1.toNatClampNeg s2) 21 x1.toNatClampNeg), .int ((am_up M 20 s1.toNatClampNeg s2) 20 x1.toNatClampNeg)]) (r := [.int x1, .ref 21]) (n := 2) (m := 2) (by with_unfolding_all rfl) rfl (by decide) (by with_unfolding_all rfl) (by decide) (by with_unfolding_all rfl) ⟨fun z => absurd z (by decide), fun z => by simp at z⟩
set_option maxRecDepth 20000 in
theorem b_114_40 {d nS : Nat} {x1 x2 s1 s2 : Int32} {M : am_M} {Q : Option Value → am_H → Prop} (h1 : vp_in s1 6) : am_Wp d 114 40 [.ref 18, .int x1, .int x2] [.int s2, .int s1, .ref 21] (hp nS M) Q = Q none (hp nS (am_up M 21 s1.toNatClampNeg s2)) := by
  refine (eq_ast (e := (.iastore, 1, 0, 0, 0)) (by with_unfolding_all rfl) rfl (n := 6) (by with_unfolding_all rfl) (by decide) h1).trans ?_
  exact eq_retV2 (e := (.return_, 1, 0, 0, 0)) (by with_unfolding_all rfl) rfl (by with_unfolding_all rfl)
-- LarkExchange$World rises(II)V (114, (101, None, None))
set_option maxRecDepth 20000 in
theorem b_114i1_0 {d nS : Nat} {x1 x2 : Int32} {M : am_M} {Q : Option Value → am_H → Prop} (h1 : vp_in x1 6) : am_Wp (d + 1) 114 0 [.ref 101, .int x1, .int x2] [] (hp nS M) Q = am_Wp d 296 0 [.int 999, .int ((M 103 x1.toNatClampNeg) + x2)] [] (hp nS M) (fun v h1 => am_Wp (d + 1) 114 19 [.ref 101, .int x1, .int x2] (am_ans v [.int x1, .ref 103]) h1 Q) := by
  refine (eq_run 7 (q := (13, [.ref 101, .int x1, .int x2], [.int x1, .ref 103, .int 999, .int x1, .ref 103], hp nS M)) (by with_unfolding_all rfl)).trans ?_
  refine (eq_ald (e := (.iaload, 1, 0, 0, 0)) (by with_unfolding_all rfl) rfl (n := 6) (by with_unfolding_all rfl) h1).trans ?_
  refine (eq_run 2 (q := (16, [.ref 101, .int x1, .int x2], [.int ((M 103 x1.toNatClampNeg) + x2), .int 999, .int x1, .ref 103], hp nS M)) (by with_unfolding_all rfl)).trans ?_
  exact eq_call2 (e := (.invokestatic 83, 3, 1, 296, 190)) (as := [.int 999, .int ((M 103 x1.toNatClampNeg) + x2)]) (r := [.int x1, .ref 103]) (n := 2) (m := 2) (by with_unfolding_all rfl) rfl (by decide) (by with_unfolding_all rfl) (by decide) (by with_unfolding_all rfl) ⟨fun z => absurd z (by decide), fun z => by simp at z⟩
set_option maxRecDepth 20000 in
theorem b_114i1_19 {d nS : Nat} {x1 x2 s1 s2 : Int32} {M : am_M} {Q : Option Value → am_H → Prop} (h1 : vp_in s1 6) (h2 : vp_in x1 6) (h3 : vp_in x1 6) : am_Wp (d + 1) 114 19 [.ref 101, .int x1, .int x2] [.int s2, .int s1, .ref 103] (hp nS M) Q = am_Wp d 297 0 [.int ((am_up M 103 s1.toNatClampNeg s2) 104 x1.toNatClampNeg), .int ((am_up M 103 s1.toNatClampNeg s2) 103 x1.toNatClampNeg)] [] (hp nS (am_up M 103 s1.toNatClampNeg s2)) (fun v h1 => am_Wp (d + 1) 114 40 [.ref 101, .int x1, .int x2] (am_ans v [.int x1, .ref 104]) h1 Q) := by
  refine (eq_ast (e := (.iastore, 1, 0, 0, 0)) (by with_unfolding_all rfl) rfl (n := 6) (by with_unfolding_all rfl) (by decide) h1).trans ?_
  refine (eq_run 6 (q := (30, [.ref 101, .int x1, .int x2], [.int x1, .ref 104, .int x1, .ref 104], hp nS (am_up M 103 s1.toNatClampNeg s2))) (by with_unfolding_all rfl)).trans ?_
  refine (eq_ald (e := (.iaload, 1, 0, 0, 0)) (by with_unfolding_all rfl) rfl (n := 6) (by with_unfolding_all rfl) h2).trans ?_
  refine (eq_run 3 (q := (36, [.ref 101, .int x1, .int x2], [.int x1, .ref 103, .int ((am_up M 103 s1.toNatClampNeg s2) 104 x1.toNatClampNeg), .int x1, .ref 104], hp nS (am_up M 103 s1.toNatClampNeg s2))) (by with_unfolding_all rfl)).trans ?_
  refine (eq_ald (e := (.iaload, 1, 0, 0, 0)) (by with_unfolding_all rfl) rfl (n := 6) (by with_unfolding_all rfl) h3).trans ?_
  exact eq_call2 (e := (.invokestatic 89, 3, 1, 297, 191)) (as := [.int ((am_up M 103 s1.toNatClampNeg s2) 104 x1.toNatClampNeg), .int ((am_up M 103 s1.toNatClampNeg s2) 103 x1.toNatClampNeg)]) (r := [.int x1, .ref 104]) (n := 2) (m := 2) (by with_unfolding_all rfl) rfl (by decide) (by with_unfolding_all rfl) (by decide) (by with_unfolding_all rfl) ⟨fun z => absurd z (by decide), fun z => by simp at z⟩
set_option maxRecDepth 20000 in
theorem b_114i1_40 {d nS : Nat} {x1 x2 s1 s2 : Int32} {M : am_M} {Q : Option Value → am_H → Prop} (h1 : vp_in s1 6) : am_Wp d 114 40 [.ref 101, .int x1, .int x2] [.int s2, .int s1, .ref 104] (hp nS M) Q = Q none (hp nS (am_up M 104 s1.toNatClampNeg s2)) := by
  refine (eq_ast (e := (.iastore, 1, 0, 0, 0)) (by with_unfolding_all rfl) rfl (n := 6) (by with_unfolding_all rfl) (by decide) h1).trans ?_
  exact eq_retV2 (e := (.return_, 1, 0, 0, 0)) (by with_unfolding_all rfl) rfl (by with_unfolding_all rfl)
-- LarkExchange$World draw(I)I (115, (18, None))
set_option maxRecDepth 20000 in
theorem b_115_0 {d nS : Nat} {x1 : Int32} {M : am_M} {Q : Option Value → am_H → Prop} : am_Wp d 115 0 [.ref 18, .int x1] [] (hp nS M) Q = if x1 ≤ 0 then am_Wp d 115 30 [.ref 18, .int x1] [] (hp nS (am_up M 18 5 (((M 18 5) * 1664525) + 1013904223))) Q else am_Wp d 115 18 [.ref 18, .int x1] [] (hp nS (am_up M 18 5 (((M 18 5) * 1664525) + 1013904223))) Q := by
  refine (eq_run 9 (q := (15, [.ref 18, .int x1], [.int x1], hp nS (am_up M 18 5 (((M 18 5) * 1664525) + 1013904223)))) (by with_unfolding_all rfl)).trans ?_
  exact eq_if_le (by with_unfolding_all rfl)
set_option maxRecDepth 20000 in
theorem b_115_18 {d nS : Nat} {x1 : Int32} {M : am_M} {Q : Option Value → am_H → Prop} (h1 : ¬ x1 = 0) : am_Wp d 115 18 [.ref 18, .int x1] [] (hp nS M) Q = am_Wp d 115 31 [.ref 18, .int x1] [.int ((((M 18 5).toUInt32 >>> ((8 : Int32).toUInt32 &&& Int32.toUInt32 31)).toInt32) - (((M 18 5).toUInt32 >>> ((8 : Int32).toUInt32 &&& Int32.toUInt32 31)).toInt32) / x1 * x1)] (hp nS M) Q := by
  refine (eq_run 5 (q := (26, [.ref 18, .int x1], [.int x1, .int (((M 18 5).toUInt32 >>> ((8 : Int32).toUInt32 &&& Int32.toUInt32 31)).toInt32)], hp nS M)) (by with_unfolding_all rfl)).trans ?_
  refine (eq_rem (e := (.irem, 1, 0, 0, 0)) (by with_unfolding_all rfl) rfl h1).trans ?_
  exact eq_run 1 (q := (31, [.ref 18, .int x1], [.int ((((M 18 5).toUInt32 >>> ((8 : Int32).toUInt32 &&& Int32.toUInt32 31)).toInt32) - (((M 18 5).toUInt32 >>> ((8 : Int32).toUInt32 &&& Int32.toUInt32 31)).toInt32) / x1 * x1)], hp nS M)) (by with_unfolding_all rfl)
set_option maxRecDepth 20000 in
theorem b_115_30 {d nS : Nat} {x1 : Int32} {M : am_M} {Q : Option Value → am_H → Prop} : am_Wp d 115 30 [.ref 18, .int x1] [] (hp nS M) Q = am_Wp d 115 31 [.ref 18, .int x1] [.int 0] (hp nS M) Q := by
  exact eq_run 1 (q := (31, [.ref 18, .int x1], [.int 0], hp nS M)) (by with_unfolding_all rfl)
set_option maxRecDepth 20000 in
theorem b_115_31 {d nS : Nat} {x1 s0 : Int32} {M : am_M} {Q : Option Value → am_H → Prop} : am_Wp d 115 31 [.ref 18, .int x1] [.int s0] (hp nS M) Q = Q (some (.int s0)) (hp nS M) := by
  exact eq_retI2 (e := (.ireturn, 1, 0, 0, 0)) (t := .int) (by with_unfolding_all rfl) rfl (by with_unfolding_all rfl) rfl
-- LarkExchange$World draw(I)I (115, (101, None))
set_option maxRecDepth 20000 in
theorem b_115i1_0 {d nS : Nat} {x1 : Int32} {M : am_M} {Q : Option Value → am_H → Prop} : am_Wp d 115 0 [.ref 101, .int x1] [] (hp nS M) Q = if x1 ≤ 0 then am_Wp d 115 30 [.ref 101, .int x1] [] (hp nS (am_up M 101 5 (((M 101 5) * 1664525) + 1013904223))) Q else am_Wp d 115 18 [.ref 101, .int x1] [] (hp nS (am_up M 101 5 (((M 101 5) * 1664525) + 1013904223))) Q := by
  refine (eq_run 9 (q := (15, [.ref 101, .int x1], [.int x1], hp nS (am_up M 101 5 (((M 101 5) * 1664525) + 1013904223)))) (by with_unfolding_all rfl)).trans ?_
  exact eq_if_le (by with_unfolding_all rfl)
set_option maxRecDepth 20000 in
theorem b_115i1_18 {d nS : Nat} {x1 : Int32} {M : am_M} {Q : Option Value → am_H → Prop} (h1 : ¬ x1 = 0) : am_Wp d 115 18 [.ref 101, .int x1] [] (hp nS M) Q = am_Wp d 115 31 [.ref 101, .int x1] [.int ((((M 101 5).toUInt32 >>> ((8 : Int32).toUInt32 &&& Int32.toUInt32 31)).toInt32) - (((M 101 5).toUInt32 >>> ((8 : Int32).toUInt32 &&& Int32.toUInt32 31)).toInt32) / x1 * x1)] (hp nS M) Q := by
  refine (eq_run 5 (q := (26, [.ref 101, .int x1], [.int x1, .int (((M 101 5).toUInt32 >>> ((8 : Int32).toUInt32 &&& Int32.toUInt32 31)).toInt32)], hp nS M)) (by with_unfolding_all rfl)).trans ?_
  refine (eq_rem (e := (.irem, 1, 0, 0, 0)) (by with_unfolding_all rfl) rfl h1).trans ?_
  exact eq_run 1 (q := (31, [.ref 101, .int x1], [.int ((((M 101 5).toUInt32 >>> ((8 : Int32).toUInt32 &&& Int32.toUInt32 31)).toInt32) - (((M 101 5).toUInt32 >>> ((8 : Int32).toUInt32 &&& Int32.toUInt32 31)).toInt32) / x1 * x1)], hp nS M)) (by with_unfolding_all rfl)
set_option maxRecDepth 20000 in
theorem b_115i1_30 {d nS : Nat} {x1 : Int32} {M : am_M} {Q : Option Value → am_H → Prop} : am_Wp d 115 30 [.ref 101, .int x1] [] (hp nS M) Q = am_Wp d 115 31 [.ref 101, .int x1] [.int 0] (hp nS M) Q := by
  exact eq_run 1 (q := (31, [.ref 101, .int x1], [.int 0], hp nS M)) (by with_unfolding_all rfl)
set_option maxRecDepth 20000 in
theorem b_115i1_31 {d nS : Nat} {x1 s0 : Int32} {M : am_M} {Q : Option Value → am_H → Prop} : am_Wp d 115 31 [.ref 101, .int x1] [.int s0] (hp nS M) Q = Q (some (.int s0)) (hp nS M) := by
  exact eq_retI2 (e := (.ireturn, 1, 0, 0, 0)) (t := .int) (by with_unfolding_all rfl) rfl (by with_unfolding_all rfl) rfl
-- LarkExchange$World leastPrice()I (116, (18,))
set_option maxRecDepth 20000 in
theorem b_116_0 {d nS : Nat} {M : am_M} {Q : Option Value → am_H → Prop} : am_Wp d 116 0 [.ref 18, .retAddr 0, .retAddr 0] [] (hp nS M) Q = am_Wp d 116 4 [.ref 18, .int 0, .int 0] [] (hp nS M) Q := by
  exact eq_run 4 (q := (4, [.ref 18, .int 0, .int 0], [], hp nS M)) (by with_unfolding_all rfl)
set_option maxRecDepth 20000 in
theorem b_116_4 {d nS : Nat} {x1 x2 : Int32} {M : am_M} {Q : Option Value → am_H → Prop} : am_Wp d 116 4 [.ref 18, .int x1, .int x2] [] (hp nS M) Q = if (M 18 1) ≤ x2 then am_Wp d 116 39 [.ref 18, .int x1, .int x2] [] (hp nS M) Q else am_Wp d 116 12 [.ref 18, .int x1, .int x2] [] (hp nS M) Q := by
  refine (eq_run 3 (q := (9, [.ref 18, .int x1, .int x2], [.int (M 18 1), .int x2], hp nS M)) (by with_unfolding_all rfl)).trans ?_
  exact eq_cmp_ge (by with_unfolding_all rfl)
set_option maxRecDepth 20000 in
theorem b_116_12 {d nS : Nat} {x1 x2 : Int32} {M : am_M} {Q : Option Value → am_H → Prop} : am_Wp d 116 12 [.ref 18, .int x1, .int x2] [] (hp nS M) Q = if x2 = 0 then am_Wp d 116 26 [.ref 18, .int x1, .int x2] [] (hp nS M) Q else am_Wp d 116 16 [.ref 18, .int x1, .int x2] [] (hp nS M) Q := by
  refine (eq_run 1 (q := (13, [.ref 18, .int x1, .int x2], [.int x2], hp nS M)) (by with_unfolding_all rfl)).trans ?_
  exact eq_if_eq (by with_unfolding_all rfl)
set_option maxRecDepth 20000 in
theorem b_116_16 {d nS : Nat} {x1 x2 : Int32} {M : am_M} {Q : Option Value → am_H → Prop} (h1 : vp_in x2 8) : am_Wp d 116 16 [.ref 18, .int x1, .int x2] [] (hp nS M) Q = if x1 ≤ (M 26 x2.toNatClampNeg) then am_Wp d 116 33 [.ref 18, .int x1, .int x2] [] (hp nS M) Q else am_Wp d 116 26 [.ref 18, .int x1, .int x2] [] (hp nS M) Q := by
  refine (eq_run 3 (q := (21, [.ref 18, .int x1, .int x2], [.int x2, .ref 26], hp nS M)) (by with_unfolding_all rfl)).trans ?_
  refine (eq_ald (e := (.iaload, 1, 0, 0, 0)) (by with_unfolding_all rfl) rfl (n := 8) (by with_unfolding_all rfl) h1).trans ?_
  refine (eq_run 1 (q := (23, [.ref 18, .int x1, .int x2], [.int x1, .int (M 26 x2.toNatClampNeg)], hp nS M)) (by with_unfolding_all rfl)).trans ?_
  exact eq_cmp_ge (by with_unfolding_all rfl)
set_option maxRecDepth 20000 in
theorem b_116_26 {d nS : Nat} {x1 x2 : Int32} {M : am_M} {Q : Option Value → am_H → Prop} (h1 : vp_in x2 8) : am_Wp d 116 26 [.ref 18, .int x1, .int x2] [] (hp nS M) Q = am_Wp d 116 33 [.ref 18, .int (M 26 x2.toNatClampNeg), .int x2] [] (hp nS M) Q := by
  refine (eq_run 3 (q := (31, [.ref 18, .int x1, .int x2], [.int x2, .ref 26], hp nS M)) (by with_unfolding_all rfl)).trans ?_
  refine (eq_ald (e := (.iaload, 1, 0, 0, 0)) (by with_unfolding_all rfl) rfl (n := 8) (by with_unfolding_all rfl) h1).trans ?_
  exact eq_run 1 (q := (33, [.ref 18, .int (M 26 x2.toNatClampNeg), .int x2], [], hp nS M)) (by with_unfolding_all rfl)
set_option maxRecDepth 20000 in
theorem b_116_33 {d nS : Nat} {x1 x2 : Int32} {M : am_M} {Q : Option Value → am_H → Prop} : am_Wp d 116 33 [.ref 18, .int x1, .int x2] [] (hp nS M) Q = am_Wp d 116 4 [.ref 18, .int x1, .int (x2 + 1)] [] (hp nS M) Q := by
  exact eq_run 2 (q := (4, [.ref 18, .int x1, .int (x2 + 1)], [], hp nS M)) (by with_unfolding_all rfl)
set_option maxRecDepth 20000 in
theorem b_116_39 {d nS : Nat} {x1 x2 : Int32} {M : am_M} {Q : Option Value → am_H → Prop} : am_Wp d 116 39 [.ref 18, .int x1, .int x2] [] (hp nS M) Q = Q (some (.int x1)) (hp nS M) := by
  refine (eq_run 1 (q := (40, [.ref 18, .int x1, .int x2], [.int x1], hp nS M)) (by with_unfolding_all rfl)).trans ?_
  exact eq_retI2 (e := (.ireturn, 1, 0, 0, 0)) (t := .int) (by with_unfolding_all rfl) rfl (by with_unfolding_all rfl) rfl
-- LarkExchange$World leastPrice()I (116, (101,))
set_option maxRecDepth 20000 in
theorem b_116i1_0 {d nS : Nat} {M : am_M} {Q : Option Value → am_H → Prop} : am_Wp d 116 0 [.ref 101, .retAddr 0, .retAddr 0] [] (hp nS M) Q = am_Wp d 116 4 [.ref 101, .int 0, .int 0] [] (hp nS M) Q := by
  exact eq_run 4 (q := (4, [.ref 101, .int 0, .int 0], [], hp nS M)) (by with_unfolding_all rfl)
set_option maxRecDepth 20000 in
theorem b_116i1_4 {d nS : Nat} {x1 x2 : Int32} {M : am_M} {Q : Option Value → am_H → Prop} : am_Wp d 116 4 [.ref 101, .int x1, .int x2] [] (hp nS M) Q = if (M 101 1) ≤ x2 then am_Wp d 116 39 [.ref 101, .int x1, .int x2] [] (hp nS M) Q else am_Wp d 116 12 [.ref 101, .int x1, .int x2] [] (hp nS M) Q := by
  refine (eq_run 3 (q := (9, [.ref 101, .int x1, .int x2], [.int (M 101 1), .int x2], hp nS M)) (by with_unfolding_all rfl)).trans ?_
  exact eq_cmp_ge (by with_unfolding_all rfl)
set_option maxRecDepth 20000 in
theorem b_116i1_12 {d nS : Nat} {x1 x2 : Int32} {M : am_M} {Q : Option Value → am_H → Prop} : am_Wp d 116 12 [.ref 101, .int x1, .int x2] [] (hp nS M) Q = if x2 = 0 then am_Wp d 116 26 [.ref 101, .int x1, .int x2] [] (hp nS M) Q else am_Wp d 116 16 [.ref 101, .int x1, .int x2] [] (hp nS M) Q := by
  refine (eq_run 1 (q := (13, [.ref 101, .int x1, .int x2], [.int x2], hp nS M)) (by with_unfolding_all rfl)).trans ?_
  exact eq_if_eq (by with_unfolding_all rfl)
set_option maxRecDepth 20000 in
theorem b_116i1_16 {d nS : Nat} {x1 x2 : Int32} {M : am_M} {Q : Option Value → am_H → Prop} (h1 : vp_in x2 8) : am_Wp d 116 16 [.ref 101, .int x1, .int x2] [] (hp nS M) Q = if x1 ≤ (M 109 x2.toNatClampNeg) then am_Wp d 116 33 [.ref 101, .int x1, .int x2] [] (hp nS M) Q else am_Wp d 116 26 [.ref 101, .int x1, .int x2] [] (hp nS M) Q := by
  refine (eq_run 3 (q := (21, [.ref 101, .int x1, .int x2], [.int x2, .ref 109], hp nS M)) (by with_unfolding_all rfl)).trans ?_
  refine (eq_ald (e := (.iaload, 1, 0, 0, 0)) (by with_unfolding_all rfl) rfl (n := 8) (by with_unfolding_all rfl) h1).trans ?_
  refine (eq_run 1 (q := (23, [.ref 101, .int x1, .int x2], [.int x1, .int (M 109 x2.toNatClampNeg)], hp nS M)) (by with_unfolding_all rfl)).trans ?_
  exact eq_cmp_ge (by with_unfolding_all rfl)
set_option maxRecDepth 20000 in
theorem b_116i1_26 {d nS : Nat} {x1 x2 : Int32} {M : am_M} {Q : Option Value → am_H → Prop} (h1 : vp_in x2 8) : am_Wp d 116 26 [.ref 101, .int x1, .int x2] [] (hp nS M) Q = am_Wp d 116 33 [.ref 101, .int (M 109 x2.toNatClampNeg), .int x2] [] (hp nS M) Q := by
  refine (eq_run 3 (q := (31, [.ref 101, .int x1, .int x2], [.int x2, .ref 109], hp nS M)) (by with_unfolding_all rfl)).trans ?_
  refine (eq_ald (e := (.iaload, 1, 0, 0, 0)) (by with_unfolding_all rfl) rfl (n := 8) (by with_unfolding_all rfl) h1).trans ?_
  exact eq_run 1 (q := (33, [.ref 101, .int (M 109 x2.toNatClampNeg), .int x2], [], hp nS M)) (by with_unfolding_all rfl)
set_option maxRecDepth 20000 in
theorem b_116i1_33 {d nS : Nat} {x1 x2 : Int32} {M : am_M} {Q : Option Value → am_H → Prop} : am_Wp d 116 33 [.ref 101, .int x1, .int x2] [] (hp nS M) Q = am_Wp d 116 4 [.ref 101, .int x1, .int (x2 + 1)] [] (hp nS M) Q := by
  exact eq_run 2 (q := (4, [.ref 101, .int x1, .int (x2 + 1)], [], hp nS M)) (by with_unfolding_all rfl)
set_option maxRecDepth 20000 in
theorem b_116i1_39 {d nS : Nat} {x1 x2 : Int32} {M : am_M} {Q : Option Value → am_H → Prop} : am_Wp d 116 39 [.ref 101, .int x1, .int x2] [] (hp nS M) Q = Q (some (.int x1)) (hp nS M) := by
  refine (eq_run 1 (q := (40, [.ref 101, .int x1, .int x2], [.int x1], hp nS M)) (by with_unfolding_all rfl)).trans ?_
  exact eq_retI2 (e := (.ireturn, 1, 0, 0, 0)) (t := .int) (by with_unfolding_all rfl) rfl (by with_unfolding_all rfl) rfl
-- LarkExchange$World isBroke(II)Z (117, (18, None, None))
set_option maxRecDepth 20000 in
theorem b_117_0 {d nS : Nat} {x1 x2 : Int32} {M : am_M} {Q : Option Value → am_H → Prop} : am_Wp d 117 0 [.ref 18, .int x1, .int x2, .retAddr 0] [] (hp nS M) Q = am_Wp d 117 2 [.ref 18, .int x1, .int x2, .int 0] [] (hp nS M) Q := by
  exact eq_run 2 (q := (2, [.ref 18, .int x1, .int x2, .int 0], [], hp nS M)) (by with_unfolding_all rfl)
set_option maxRecDepth 20000 in
theorem b_117_2 {d nS : Nat} {x1 x2 x3 : Int32} {M : am_M} {Q : Option Value → am_H → Prop} : am_Wp d 117 2 [.ref 18, .int x1, .int x2, .int x3] [] (hp nS M) Q = if (M 18 1) ≤ x3 then am_Wp d 117 27 [.ref 18, .int x1, .int x2, .int x3] [] (hp nS M) Q else am_Wp d 117 10 [.ref 18, .int x1, .int x2, .int x3] [] (hp nS M) Q := by
  refine (eq_run 3 (q := (7, [.ref 18, .int x1, .int x2, .int x3], [.int (M 18 1), .int x3], hp nS M)) (by with_unfolding_all rfl)).trans ?_
  exact eq_cmp_ge (by with_unfolding_all rfl)
set_option maxRecDepth 20000 in
theorem b_117_10 {d nS : Nat} {x1 x2 x3 : Int32} {M : am_M} {Q : Option Value → am_H → Prop} : am_Wp (d + 1) 117 10 [.ref 18, .int x1, .int x2, .int x3] [] (hp nS M) Q = am_Wp d 110 0 [.ref 18, .int x1, .int x3] [] (hp nS M) (fun v h1 => am_Wp (d + 1) 117 16 [.ref 18, .int x1, .int x2, .int x3] (am_ans v []) h1 Q) := by
  refine (eq_run 3 (q := (13, [.ref 18, .int x1, .int x2, .int x3], [.int x3, .int x1, .ref 18], hp nS M)) (by with_unfolding_all rfl)).trans ?_
  exact eq_call2 (e := (.invokevirtual 106, 3, 0, 110, 194)) (as := [.ref 18, .int x1, .int x3]) (r := []) (n := 3) (m := 3) (by with_unfolding_all rfl) rfl (by decide) (by with_unfolding_all rfl) (by decide) (by with_unfolding_all rfl) ⟨fun _ => am_rec_ok (c := 12) (by with_unfolding_all rfl) (by decide +kernel), fun z => by simp at z⟩
set_option maxRecDepth 20000 in
theorem b_117_16 {d nS : Nat} {x1 x2 x3 s0 : Int32} {M : am_M} {Q : Option Value → am_H → Prop} : am_Wp d 117 16 [.ref 18, .int x1, .int x2, .int x3] [.int s0] (hp nS M) Q = if s0 = 0 then am_Wp d 117 21 [.ref 18, .int x1, .int x2, .int x3] [] (hp nS M) Q else am_Wp d 117 19 [.ref 18, .int x1, .int x2, .int x3] [] (hp nS M) Q := by
  exact eq_if_eq (by with_unfolding_all rfl)
set_option maxRecDepth 20000 in
theorem b_117_19 {d nS : Nat} {x1 x2 x3 : Int32} {M : am_M} {Q : Option Value → am_H → Prop} : am_Wp d 117 19 [.ref 18, .int x1, .int x2, .int x3] [] (hp nS M) Q = Q (some (.int 0)) (hp nS M) := by
  refine (eq_run 1 (q := (20, [.ref 18, .int x1, .int x2, .int x3], [.int 0], hp nS M)) (by with_unfolding_all rfl)).trans ?_
  exact eq_retI2 (e := (.ireturn, 1, 0, 0, 0)) (t := .boolean) (by with_unfolding_all rfl) rfl (by with_unfolding_all rfl) rfl
set_option maxRecDepth 20000 in
theorem b_117_21 {d nS : Nat} {x1 x2 x3 : Int32} {M : am_M} {Q : Option Value → am_H → Prop} : am_Wp d 117 21 [.ref 18, .int x1, .int x2, .int x3] [] (hp nS M) Q = am_Wp d 117 2 [.ref 18, .int x1, .int x2, .int (x3 + 1)] [] (hp nS M) Q := by
  exact eq_run 2 (q := (2, [.ref 18, .int x1, .int x2, .int (x3 + 1)], [], hp nS M)) (by with_unfolding_all rfl)
set_option maxRecDepth 20000 in
theorem b_117_27 {d nS : Nat} {x1 x2 x3 : Int32} {M : am_M} {Q : Option Value → am_H → Prop} (h1 : vp_in x1 10) : am_Wp d 117 27 [.ref 18, .int x1, .int x2, .int x3] [] (hp nS M) Q = if ¬ (M 28 x1.toNatClampNeg) = 0 then am_Wp d 117 50 [.ref 18, .int x1, .int x2, .int x3] [] (hp nS M) Q else am_Wp d 117 36 [.ref 18, .int x1, .int x2, .int x3] [] (hp nS M) Q := by
  refine (eq_run 3 (q := (32, [.ref 18, .int x1, .int x2, .int x3], [.int x1, .ref 28], hp nS M)) (by with_unfolding_all rfl)).trans ?_
  refine (eq_ald (e := (.iaload, 1, 0, 0, 0)) (by with_unfolding_all rfl) rfl (n := 10) (by with_unfolding_all rfl) h1).trans ?_
  exact eq_if_ne (by with_unfolding_all rfl)
set_option maxRecDepth 20000 in
theorem b_117_36 {d nS : Nat} {x1 x2 x3 : Int32} {M : am_M} {Q : Option Value → am_H → Prop} (h1 : vp_in x1 10) : am_Wp d 117 36 [.ref 18, .int x1, .int x2, .int x3] [] (hp nS M) Q = if x2 ≤ (M 27 x1.toNatClampNeg) then am_Wp d 117 50 [.ref 18, .int x1, .int x2, .int x3] [] (hp nS M) Q else am_Wp d 117 46 [.ref 18, .int x1, .int x2, .int x3] [] (hp nS M) Q := by
  refine (eq_run 3 (q := (41, [.ref 18, .int x1, .int x2, .int x3], [.int x1, .ref 27], hp nS M)) (by with_unfolding_all rfl)).trans ?_
  refine (eq_ald (e := (.iaload, 1, 0, 0, 0)) (by with_unfolding_all rfl) rfl (n := 10) (by with_unfolding_all rfl) h1).trans ?_
  refine (eq_run 1 (q := (43, [.ref 18, .int x1, .int x2, .int x3], [.int x2, .int (M 27 x1.toNatClampNeg)], hp nS M)) (by with_unfolding_all rfl)).trans ?_
  exact eq_cmp_ge (by with_unfolding_all rfl)
set_option maxRecDepth 20000 in
theorem b_117_46 {d nS : Nat} {x1 x2 x3 : Int32} {M : am_M} {Q : Option Value → am_H → Prop} : am_Wp d 117 46 [.ref 18, .int x1, .int x2, .int x3] [] (hp nS M) Q = am_Wp d 117 51 [.ref 18, .int x1, .int x2, .int x3] [.int 1] (hp nS M) Q := by
  exact eq_run 2 (q := (51, [.ref 18, .int x1, .int x2, .int x3], [.int 1], hp nS M)) (by with_unfolding_all rfl)
set_option maxRecDepth 20000 in
theorem b_117_50 {d nS : Nat} {x1 x2 x3 : Int32} {M : am_M} {Q : Option Value → am_H → Prop} : am_Wp d 117 50 [.ref 18, .int x1, .int x2, .int x3] [] (hp nS M) Q = am_Wp d 117 51 [.ref 18, .int x1, .int x2, .int x3] [.int 0] (hp nS M) Q := by
  exact eq_run 1 (q := (51, [.ref 18, .int x1, .int x2, .int x3], [.int 0], hp nS M)) (by with_unfolding_all rfl)
set_option maxRecDepth 20000 in
theorem b_117_51 {d nS : Nat} {x1 x2 x3 s0 : Int32} {M : am_M} {Q : Option Value → am_H → Prop} (h1 : am_rok .boolean s0 = true) : am_Wp d 117 51 [.ref 18, .int x1, .int x2, .int x3] [.int s0] (hp nS M) Q = Q (some (.int s0)) (hp nS M) := by
  exact eq_retI2 (e := (.ireturn, 1, 0, 0, 0)) (t := .boolean) (by with_unfolding_all rfl) rfl (by with_unfolding_all rfl) h1
-- LarkExchange$World isBroke(II)Z (117, (101, None, None))
set_option maxRecDepth 20000 in
theorem b_117i1_0 {d nS : Nat} {x1 x2 : Int32} {M : am_M} {Q : Option Value → am_H → Prop} : am_Wp d 117 0 [.ref 101, .int x1, .int x2, .retAddr 0] [] (hp nS M) Q = am_Wp d 117 2 [.ref 101, .int x1, .int x2, .int 0] [] (hp nS M) Q := by
  exact eq_run 2 (q := (2, [.ref 101, .int x1, .int x2, .int 0], [], hp nS M)) (by with_unfolding_all rfl)
set_option maxRecDepth 20000 in
theorem b_117i1_2 {d nS : Nat} {x1 x2 x3 : Int32} {M : am_M} {Q : Option Value → am_H → Prop} : am_Wp d 117 2 [.ref 101, .int x1, .int x2, .int x3] [] (hp nS M) Q = if (M 101 1) ≤ x3 then am_Wp d 117 27 [.ref 101, .int x1, .int x2, .int x3] [] (hp nS M) Q else am_Wp d 117 10 [.ref 101, .int x1, .int x2, .int x3] [] (hp nS M) Q := by
  refine (eq_run 3 (q := (7, [.ref 101, .int x1, .int x2, .int x3], [.int (M 101 1), .int x3], hp nS M)) (by with_unfolding_all rfl)).trans ?_
  exact eq_cmp_ge (by with_unfolding_all rfl)
set_option maxRecDepth 20000 in
theorem b_117i1_10 {d nS : Nat} {x1 x2 x3 : Int32} {M : am_M} {Q : Option Value → am_H → Prop} : am_Wp (d + 1) 117 10 [.ref 101, .int x1, .int x2, .int x3] [] (hp nS M) Q = am_Wp d 110 0 [.ref 101, .int x1, .int x3] [] (hp nS M) (fun v h1 => am_Wp (d + 1) 117 16 [.ref 101, .int x1, .int x2, .int x3] (am_ans v []) h1 Q) := by
  refine (eq_run 3 (q := (13, [.ref 101, .int x1, .int x2, .int x3], [.int x3, .int x1, .ref 101], hp nS M)) (by with_unfolding_all rfl)).trans ?_
  exact eq_call2 (e := (.invokevirtual 106, 3, 0, 110, 194)) (as := [.ref 101, .int x1, .int x3]) (r := []) (n := 3) (m := 3) (by with_unfolding_all rfl) rfl (by decide) (by with_unfolding_all rfl) (by decide) (by with_unfolding_all rfl) ⟨fun _ => am_rec_ok (c := 12) (by with_unfolding_all rfl) (by decide +kernel), fun z => by simp at z⟩
set_option maxRecDepth 20000 in
theorem b_117i1_16 {d nS : Nat} {x1 x2 x3 s0 : Int32} {M : am_M} {Q : Option Value → am_H → Prop} : am_Wp d 117 16 [.ref 101, .int x1, .int x2, .int x3] [.int s0] (hp nS M) Q = if s0 = 0 then am_Wp d 117 21 [.ref 101, .int x1, .int x2, .int x3] [] (hp nS M) Q else am_Wp d 117 19 [.ref 101, .int x1, .int x2, .int x3] [] (hp nS M) Q := by
  exact eq_if_eq (by with_unfolding_all rfl)
set_option maxRecDepth 20000 in
theorem b_117i1_19 {d nS : Nat} {x1 x2 x3 : Int32} {M : am_M} {Q : Option Value → am_H → Prop} : am_Wp d 117 19 [.ref 101, .int x1, .int x2, .int x3] [] (hp nS M) Q = Q (some (.int 0)) (hp nS M) := by
  refine (eq_run 1 (q := (20, [.ref 101, .int x1, .int x2, .int x3], [.int 0], hp nS M)) (by with_unfolding_all rfl)).trans ?_
  exact eq_retI2 (e := (.ireturn, 1, 0, 0, 0)) (t := .boolean) (by with_unfolding_all rfl) rfl (by with_unfolding_all rfl) rfl
set_option maxRecDepth 20000 in
theorem b_117i1_21 {d nS : Nat} {x1 x2 x3 : Int32} {M : am_M} {Q : Option Value → am_H → Prop} : am_Wp d 117 21 [.ref 101, .int x1, .int x2, .int x3] [] (hp nS M) Q = am_Wp d 117 2 [.ref 101, .int x1, .int x2, .int (x3 + 1)] [] (hp nS M) Q := by
  exact eq_run 2 (q := (2, [.ref 101, .int x1, .int x2, .int (x3 + 1)], [], hp nS M)) (by with_unfolding_all rfl)
set_option maxRecDepth 20000 in
theorem b_117i1_27 {d nS : Nat} {x1 x2 x3 : Int32} {M : am_M} {Q : Option Value → am_H → Prop} (h1 : vp_in x1 10) : am_Wp d 117 27 [.ref 101, .int x1, .int x2, .int x3] [] (hp nS M) Q = if ¬ (M 111 x1.toNatClampNeg) = 0 then am_Wp d 117 50 [.ref 101, .int x1, .int x2, .int x3] [] (hp nS M) Q else am_Wp d 117 36 [.ref 101, .int x1, .int x2, .int x3] [] (hp nS M) Q := by
  refine (eq_run 3 (q := (32, [.ref 101, .int x1, .int x2, .int x3], [.int x1, .ref 111], hp nS M)) (by with_unfolding_all rfl)).trans ?_
  refine (eq_ald (e := (.iaload, 1, 0, 0, 0)) (by with_unfolding_all rfl) rfl (n := 10) (by with_unfolding_all rfl) h1).trans ?_
  exact eq_if_ne (by with_unfolding_all rfl)
set_option maxRecDepth 20000 in
theorem b_117i1_36 {d nS : Nat} {x1 x2 x3 : Int32} {M : am_M} {Q : Option Value → am_H → Prop} (h1 : vp_in x1 10) : am_Wp d 117 36 [.ref 101, .int x1, .int x2, .int x3] [] (hp nS M) Q = if x2 ≤ (M 110 x1.toNatClampNeg) then am_Wp d 117 50 [.ref 101, .int x1, .int x2, .int x3] [] (hp nS M) Q else am_Wp d 117 46 [.ref 101, .int x1, .int x2, .int x3] [] (hp nS M) Q := by
  refine (eq_run 3 (q := (41, [.ref 101, .int x1, .int x2, .int x3], [.int x1, .ref 110], hp nS M)) (by with_unfolding_all rfl)).trans ?_
  refine (eq_ald (e := (.iaload, 1, 0, 0, 0)) (by with_unfolding_all rfl) rfl (n := 10) (by with_unfolding_all rfl) h1).trans ?_
  refine (eq_run 1 (q := (43, [.ref 101, .int x1, .int x2, .int x3], [.int x2, .int (M 110 x1.toNatClampNeg)], hp nS M)) (by with_unfolding_all rfl)).trans ?_
  exact eq_cmp_ge (by with_unfolding_all rfl)
set_option maxRecDepth 20000 in
theorem b_117i1_46 {d nS : Nat} {x1 x2 x3 : Int32} {M : am_M} {Q : Option Value → am_H → Prop} : am_Wp d 117 46 [.ref 101, .int x1, .int x2, .int x3] [] (hp nS M) Q = am_Wp d 117 51 [.ref 101, .int x1, .int x2, .int x3] [.int 1] (hp nS M) Q := by
  exact eq_run 2 (q := (51, [.ref 101, .int x1, .int x2, .int x3], [.int 1], hp nS M)) (by with_unfolding_all rfl)
set_option maxRecDepth 20000 in
theorem b_117i1_50 {d nS : Nat} {x1 x2 x3 : Int32} {M : am_M} {Q : Option Value → am_H → Prop} : am_Wp d 117 50 [.ref 101, .int x1, .int x2, .int x3] [] (hp nS M) Q = am_Wp d 117 51 [.ref 101, .int x1, .int x2, .int x3] [.int 0] (hp nS M) Q := by
  exact eq_run 1 (q := (51, [.ref 101, .int x1, .int x2, .int x3], [.int 0], hp nS M)) (by with_unfolding_all rfl)
set_option maxRecDepth 20000 in
theorem b_117i1_51 {d nS : Nat} {x1 x2 x3 s0 : Int32} {M : am_M} {Q : Option Value → am_H → Prop} (h1 : am_rok .boolean s0 = true) : am_Wp d 117 51 [.ref 101, .int x1, .int x2, .int x3] [.int s0] (hp nS M) Q = Q (some (.int s0)) (hp nS M) := by
  exact eq_retI2 (e := (.ireturn, 1, 0, 0, 0)) (t := .boolean) (by with_unfolding_all rfl) rfl (by with_unfolding_all rfl) h1
-- LarkExchange$World binds(LLarkExchange$Lines;)V (118, (18, 39))
set_option maxRecDepth 20000 in
theorem b_118_0 {d nS : Nat} {M : am_M} {Q : Option Value → am_H → Prop} : am_Wp (d + 1) 118 0 [.ref 18, .ref 39, .retAddr 0, .retAddr 0] [] (hp nS M) Q = am_Wp d 299 0 [.ref 25, .int (-1), .retAddr 0, .retAddr 0] [] (hp nS M) (fun v h1 => am_Wp (d + 1) 118 8 [.ref 18, .ref 39, .retAddr 0, .retAddr 0] (am_ans v []) h1 Q) := by
  refine (eq_run 3 (q := (5, [.ref 18, .ref 39, .retAddr 0, .retAddr 0], [.int (-1), .ref 25], hp nS M)) (by with_unfolding_all rfl)).trans ?_
  exact eq_call2 (e := (.invokestatic 92, 3, 1, 299, 192)) (as := [.ref 25, .int (-1)]) (r := []) (n := 2) (m := 4) (by with_unfolding_all rfl) rfl (by decide) (by with_unfolding_all rfl) (by decide) (by with_unfolding_all rfl) ⟨fun z => absurd z (by decide), fun z => by simp at z⟩
set_option maxRecDepth 20000 in
theorem b_118_8 {d nS : Nat} {M : am_M} {Q : Option Value → am_H → Prop} : am_Wp d 118 8 [.ref 18, .ref 39, .retAddr 0, .retAddr 0] [] (hp nS M) Q = am_Wp d 118 10 [.ref 18, .ref 39, .int 0, .retAddr 0] [] (hp nS M) Q := by
  exact eq_run 2 (q := (10, [.ref 18, .ref 39, .int 0, .retAddr 0], [], hp nS M)) (by with_unfolding_all rfl)
set_option maxRecDepth 20000 in
theorem b_118_10 {d nS : Nat} {x2 : Int32} {zx3 : Value} {M : am_M} {Q : Option Value → am_H → Prop} : am_Wp d 118 10 [.ref 18, .ref 39, .int x2, zx3] [] (hp nS M) Q = if (M 39 1) ≤ x2 then am_Wp d 118 51 [.ref 18, .ref 39, .int x2, zx3] [] (hp nS M) Q else am_Wp d 118 18 [.ref 18, .ref 39, .int x2, zx3] [] (hp nS M) Q := by
  refine (eq_run 3 (q := (15, [.ref 18, .ref 39, .int x2, zx3], [.int (M 39 1), .int x2], hp nS M)) (by with_unfolding_all rfl)).trans ?_
  exact eq_cmp_ge (by with_unfolding_all rfl)
set_option maxRecDepth 20000 in
theorem b_118_18 {d nS : Nat} {x2 : Int32} {zx3 : Value} {M : am_M} {Q : Option Value → am_H → Prop} : am_Wp (d + 1) 118 18 [.ref 18, .ref 39, .int x2, zx3] [] (hp nS M) Q = am_Wp d 33 0 [.ref 39, .int x2, .int 0] [] (hp nS M) (fun v h1 => am_Wp (d + 1) 118 24 [.ref 18, .ref 39, .int x2, zx3] (am_ans v []) h1 Q) := by
  refine (eq_run 3 (q := (21, [.ref 18, .ref 39, .int x2, zx3], [.int 0, .int x2, .ref 39], hp nS M)) (by with_unfolding_all rfl)).trans ?_
  exact eq_call2 (e := (.invokevirtual 103, 3, 0, 33, 193)) (as := [.ref 39, .int x2, .int 0]) (r := []) (n := 3) (m := 3) (by with_unfolding_all rfl) rfl (by decide) (by with_unfolding_all rfl) (by decide) (by with_unfolding_all rfl) ⟨fun _ => am_rec_ok (c := 6) (by with_unfolding_all rfl) (by decide +kernel), fun z => by simp at z⟩
set_option maxRecDepth 20000 in
theorem b_118_24 {d nS : Nat} {x2 s0 : Int32} {zx3 : Value} {M : am_M} {Q : Option Value → am_H → Prop} : am_Wp (d + 1) 118 24 [.ref 18, .ref 39, .int x2, zx3] [.int s0] (hp nS M) Q = am_Wp d 106 0 [.ref 18, .int s0] [] (hp nS M) (fun v h1 => am_Wp (d + 1) 118 30 [.ref 18, .ref 39, .int x2, .int s0] (am_ans v []) h1 Q) := by
  refine (eq_run 3 (q := (27, [.ref 18, .ref 39, .int x2, .int s0], [.int s0, .ref 18], hp nS M)) (by with_unfolding_all rfl)).trans ?_
  exact eq_call2 (e := (.invokevirtual 75, 3, 0, 106, 188)) (as := [.ref 18, .int s0]) (r := []) (n := 2) (m := 2) (by with_unfolding_all rfl) rfl (by decide) (by with_unfolding_all rfl) (by decide) (by with_unfolding_all rfl) ⟨fun _ => am_rec_ok (c := 12) (by with_unfolding_all rfl) (by decide +kernel), fun z => by simp at z⟩
set_option maxRecDepth 20000 in
theorem b_118_30 {d nS : Nat} {x2 x3 s0 : Int32} {M : am_M} {Q : Option Value → am_H → Prop} : am_Wp d 118 30 [.ref 18, .ref 39, .int x2, .int x3] [.int s0] (hp nS M) Q = if s0 = 0 then am_Wp d 118 45 [.ref 18, .ref 39, .int x2, .int x3] [] (hp nS M) Q else am_Wp d 118 33 [.ref 18, .ref 39, .int x2, .int x3] [] (hp nS M) Q := by
  exact eq_if_eq (by with_unfolding_all rfl)
set_option maxRecDepth 20000 in
theorem b_118_33 {d nS : Nat} {x2 x3 : Int32} {M : am_M} {Q : Option Value → am_H → Prop} : am_Wp (d + 1) 118 33 [.ref 18, .ref 39, .int x2, .int x3] [] (hp nS M) Q = am_Wp d 33 0 [.ref 39, .int x2, .int 1] [] (hp nS M) (fun v h1 => am_Wp (d + 1) 118 44 [.ref 18, .ref 39, .int x2, .int x3] (am_ans v [.int x3, .ref 25]) h1 Q) := by
  refine (eq_run 6 (q := (41, [.ref 18, .ref 39, .int x2, .int x3], [.int 1, .int x2, .ref 39, .int x3, .ref 25], hp nS M)) (by with_unfolding_all rfl)).trans ?_
  exact eq_call2 (e := (.invokevirtual 103, 3, 0, 33, 193)) (as := [.ref 39, .int x2, .int 1]) (r := [.int x3, .ref 25]) (n := 3) (m := 3) (by with_unfolding_all rfl) rfl (by decide) (by with_unfolding_all rfl) (by decide) (by with_unfolding_all rfl) ⟨fun _ => am_rec_ok (c := 6) (by with_unfolding_all rfl) (by decide +kernel), fun z => by simp at z⟩
set_option maxRecDepth 20000 in
theorem b_118_44 {d nS : Nat} {x2 x3 s1 s2 : Int32} {M : am_M} {Q : Option Value → am_H → Prop} (h1 : vp_in s1 8) : am_Wp d 118 44 [.ref 18, .ref 39, .int x2, .int x3] [.int s2, .int s1, .ref 25] (hp nS M) Q = am_Wp d 118 45 [.ref 18, .ref 39, .int x2, .int x3] [] (hp nS (am_up M 25 s1.toNatClampNeg s2)) Q := by
  exact eq_ast (e := (.iastore, 1, 0, 0, 0)) (by with_unfolding_all rfl) rfl (n := 8) (by with_unfolding_all rfl) (by decide) h1
set_option maxRecDepth 20000 in
theorem b_118_45 {d nS : Nat} {x2 x3 : Int32} {M : am_M} {Q : Option Value → am_H → Prop} : am_Wp d 118 45 [.ref 18, .ref 39, .int x2, .int x3] [] (hp nS M) Q = am_Wp d 118 10 [.ref 18, .ref 39, .int (x2 + 1), .int x3] [] (hp nS M) Q := by
  exact eq_run 2 (q := (10, [.ref 18, .ref 39, .int (x2 + 1), .int x3], [], hp nS M)) (by with_unfolding_all rfl)
set_option maxRecDepth 20000 in
theorem b_118_51 {d nS : Nat} {x2 : Int32} {zx3 : Value} {M : am_M} {Q : Option Value → am_H → Prop} : am_Wp d 118 51 [.ref 18, .ref 39, .int x2, zx3] [] (hp nS M) Q = Q none (hp nS M) := by
  exact eq_retV2 (e := (.return_, 1, 0, 0, 0)) (by with_unfolding_all rfl) rfl (by with_unfolding_all rfl)
-- LarkExchange$World binds(LLarkExchange$Lines;)V (118, (18, 41))
set_option maxRecDepth 20000 in
theorem b_118i1_0 {d nS : Nat} {M : am_M} {Q : Option Value → am_H → Prop} : am_Wp (d + 1) 118 0 [.ref 18, .ref 41, .retAddr 0, .retAddr 0] [] (hp nS M) Q = am_Wp d 299 0 [.ref 25, .int (-1), .retAddr 0, .retAddr 0] [] (hp nS M) (fun v h1 => am_Wp (d + 1) 118 8 [.ref 18, .ref 41, .retAddr 0, .retAddr 0] (am_ans v []) h1 Q) := by
  refine (eq_run 3 (q := (5, [.ref 18, .ref 41, .retAddr 0, .retAddr 0], [.int (-1), .ref 25], hp nS M)) (by with_unfolding_all rfl)).trans ?_
  exact eq_call2 (e := (.invokestatic 92, 3, 1, 299, 192)) (as := [.ref 25, .int (-1)]) (r := []) (n := 2) (m := 4) (by with_unfolding_all rfl) rfl (by decide) (by with_unfolding_all rfl) (by decide) (by with_unfolding_all rfl) ⟨fun z => absurd z (by decide), fun z => by simp at z⟩
set_option maxRecDepth 20000 in
theorem b_118i1_8 {d nS : Nat} {M : am_M} {Q : Option Value → am_H → Prop} : am_Wp d 118 8 [.ref 18, .ref 41, .retAddr 0, .retAddr 0] [] (hp nS M) Q = am_Wp d 118 10 [.ref 18, .ref 41, .int 0, .retAddr 0] [] (hp nS M) Q := by
  exact eq_run 2 (q := (10, [.ref 18, .ref 41, .int 0, .retAddr 0], [], hp nS M)) (by with_unfolding_all rfl)
set_option maxRecDepth 20000 in
theorem b_118i1_10 {d nS : Nat} {x2 : Int32} {zx3 : Value} {M : am_M} {Q : Option Value → am_H → Prop} : am_Wp d 118 10 [.ref 18, .ref 41, .int x2, zx3] [] (hp nS M) Q = if (M 41 1) ≤ x2 then am_Wp d 118 51 [.ref 18, .ref 41, .int x2, zx3] [] (hp nS M) Q else am_Wp d 118 18 [.ref 18, .ref 41, .int x2, zx3] [] (hp nS M) Q := by
  refine (eq_run 3 (q := (15, [.ref 18, .ref 41, .int x2, zx3], [.int (M 41 1), .int x2], hp nS M)) (by with_unfolding_all rfl)).trans ?_
  exact eq_cmp_ge (by with_unfolding_all rfl)
set_option maxRecDepth 20000 in
theorem b_118i1_18 {d nS : Nat} {x2 : Int32} {zx3 : Value} {M : am_M} {Q : Option Value → am_H → Prop} : am_Wp (d + 1) 118 18 [.ref 18, .ref 41, .int x2, zx3] [] (hp nS M) Q = am_Wp d 33 0 [.ref 41, .int x2, .int 0] [] (hp nS M) (fun v h1 => am_Wp (d + 1) 118 24 [.ref 18, .ref 41, .int x2, zx3] (am_ans v []) h1 Q) := by
  refine (eq_run 3 (q := (21, [.ref 18, .ref 41, .int x2, zx3], [.int 0, .int x2, .ref 41], hp nS M)) (by with_unfolding_all rfl)).trans ?_
  exact eq_call2 (e := (.invokevirtual 103, 3, 0, 33, 193)) (as := [.ref 41, .int x2, .int 0]) (r := []) (n := 3) (m := 3) (by with_unfolding_all rfl) rfl (by decide) (by with_unfolding_all rfl) (by decide) (by with_unfolding_all rfl) ⟨fun _ => am_rec_ok (c := 6) (by with_unfolding_all rfl) (by decide +kernel), fun z => by simp at z⟩
set_option maxRecDepth 20000 in
theorem b_118i1_24 {d nS : Nat} {x2 s0 : Int32} {zx3 : Value} {M : am_M} {Q : Option Value → am_H → Prop} : am_Wp (d + 1) 118 24 [.ref 18, .ref 41, .int x2, zx3] [.int s0] (hp nS M) Q = am_Wp d 106 0 [.ref 18, .int s0] [] (hp nS M) (fun v h1 => am_Wp (d + 1) 118 30 [.ref 18, .ref 41, .int x2, .int s0] (am_ans v []) h1 Q) := by
  refine (eq_run 3 (q := (27, [.ref 18, .ref 41, .int x2, .int s0], [.int s0, .ref 18], hp nS M)) (by with_unfolding_all rfl)).trans ?_
  exact eq_call2 (e := (.invokevirtual 75, 3, 0, 106, 188)) (as := [.ref 18, .int s0]) (r := []) (n := 2) (m := 2) (by with_unfolding_all rfl) rfl (by decide) (by with_unfolding_all rfl) (by decide) (by with_unfolding_all rfl) ⟨fun _ => am_rec_ok (c := 12) (by with_unfolding_all rfl) (by decide +kernel), fun z => by simp at z⟩
set_option maxRecDepth 20000 in
theorem b_118i1_30 {d nS : Nat} {x2 x3 s0 : Int32} {M : am_M} {Q : Option Value → am_H → Prop} : am_Wp d 118 30 [.ref 18, .ref 41, .int x2, .int x3] [.int s0] (hp nS M) Q = if s0 = 0 then am_Wp d 118 45 [.ref 18, .ref 41, .int x2, .int x3] [] (hp nS M) Q else am_Wp d 118 33 [.ref 18, .ref 41, .int x2, .int x3] [] (hp nS M) Q := by
  exact eq_if_eq (by with_unfolding_all rfl)
set_option maxRecDepth 20000 in
theorem b_118i1_33 {d nS : Nat} {x2 x3 : Int32} {M : am_M} {Q : Option Value → am_H → Prop} : am_Wp (d + 1) 118 33 [.ref 18, .ref 41, .int x2, .int x3] [] (hp nS M) Q = am_Wp d 33 0 [.ref 41, .int x2, .int 1] [] (hp nS M) (fun v h1 => am_Wp (d + 1) 118 44 [.ref 18, .ref 41, .int x2, .int x3] (am_ans v [.int x3, .ref 25]) h1 Q) := by
  refine (eq_run 6 (q := (41, [.ref 18, .ref 41, .int x2, .int x3], [.int 1, .int x2, .ref 41, .int x3, .ref 25], hp nS M)) (by with_unfolding_all rfl)).trans ?_
  exact eq_call2 (e := (.invokevirtual 103, 3, 0, 33, 193)) (as := [.ref 41, .int x2, .int 1]) (r := [.int x3, .ref 25]) (n := 3) (m := 3) (by with_unfolding_all rfl) rfl (by decide) (by with_unfolding_all rfl) (by decide) (by with_unfolding_all rfl) ⟨fun _ => am_rec_ok (c := 6) (by with_unfolding_all rfl) (by decide +kernel), fun z => by simp at z⟩
set_option maxRecDepth 20000 in
theorem b_118i1_44 {d nS : Nat} {x2 x3 s1 s2 : Int32} {M : am_M} {Q : Option Value → am_H → Prop} (h1 : vp_in s1 8) : am_Wp d 118 44 [.ref 18, .ref 41, .int x2, .int x3] [.int s2, .int s1, .ref 25] (hp nS M) Q = am_Wp d 118 45 [.ref 18, .ref 41, .int x2, .int x3] [] (hp nS (am_up M 25 s1.toNatClampNeg s2)) Q := by
  exact eq_ast (e := (.iastore, 1, 0, 0, 0)) (by with_unfolding_all rfl) rfl (n := 8) (by with_unfolding_all rfl) (by decide) h1
set_option maxRecDepth 20000 in
theorem b_118i1_45 {d nS : Nat} {x2 x3 : Int32} {M : am_M} {Q : Option Value → am_H → Prop} : am_Wp d 118 45 [.ref 18, .ref 41, .int x2, .int x3] [] (hp nS M) Q = am_Wp d 118 10 [.ref 18, .ref 41, .int (x2 + 1), .int x3] [] (hp nS M) Q := by
  exact eq_run 2 (q := (10, [.ref 18, .ref 41, .int (x2 + 1), .int x3], [], hp nS M)) (by with_unfolding_all rfl)
set_option maxRecDepth 20000 in
theorem b_118i1_51 {d nS : Nat} {x2 : Int32} {zx3 : Value} {M : am_M} {Q : Option Value → am_H → Prop} : am_Wp d 118 51 [.ref 18, .ref 41, .int x2, zx3] [] (hp nS M) Q = Q none (hp nS M) := by
  exact eq_retV2 (e := (.return_, 1, 0, 0, 0)) (by with_unfolding_all rfl) rfl (by with_unfolding_all rfl)
-- LarkExchange$World binds(LLarkExchange$Lines;)V (118, (18, 43))
set_option maxRecDepth 20000 in
theorem b_118i2_0 {d nS : Nat} {M : am_M} {Q : Option Value → am_H → Prop} : am_Wp (d + 1) 118 0 [.ref 18, .ref 43, .retAddr 0, .retAddr 0] [] (hp nS M) Q = am_Wp d 299 0 [.ref 25, .int (-1), .retAddr 0, .retAddr 0] [] (hp nS M) (fun v h1 => am_Wp (d + 1) 118 8 [.ref 18, .ref 43, .retAddr 0, .retAddr 0] (am_ans v []) h1 Q) := by
  refine (eq_run 3 (q := (5, [.ref 18, .ref 43, .retAddr 0, .retAddr 0], [.int (-1), .ref 25], hp nS M)) (by with_unfolding_all rfl)).trans ?_
  exact eq_call2 (e := (.invokestatic 92, 3, 1, 299, 192)) (as := [.ref 25, .int (-1)]) (r := []) (n := 2) (m := 4) (by with_unfolding_all rfl) rfl (by decide) (by with_unfolding_all rfl) (by decide) (by with_unfolding_all rfl) ⟨fun z => absurd z (by decide), fun z => by simp at z⟩
set_option maxRecDepth 20000 in
theorem b_118i2_8 {d nS : Nat} {M : am_M} {Q : Option Value → am_H → Prop} : am_Wp d 118 8 [.ref 18, .ref 43, .retAddr 0, .retAddr 0] [] (hp nS M) Q = am_Wp d 118 10 [.ref 18, .ref 43, .int 0, .retAddr 0] [] (hp nS M) Q := by
  exact eq_run 2 (q := (10, [.ref 18, .ref 43, .int 0, .retAddr 0], [], hp nS M)) (by with_unfolding_all rfl)
set_option maxRecDepth 20000 in
theorem b_118i2_10 {d nS : Nat} {x2 : Int32} {zx3 : Value} {M : am_M} {Q : Option Value → am_H → Prop} : am_Wp d 118 10 [.ref 18, .ref 43, .int x2, zx3] [] (hp nS M) Q = if (M 43 1) ≤ x2 then am_Wp d 118 51 [.ref 18, .ref 43, .int x2, zx3] [] (hp nS M) Q else am_Wp d 118 18 [.ref 18, .ref 43, .int x2, zx3] [] (hp nS M) Q := by
  refine (eq_run 3 (q := (15, [.ref 18, .ref 43, .int x2, zx3], [.int (M 43 1), .int x2], hp nS M)) (by with_unfolding_all rfl)).trans ?_
  exact eq_cmp_ge (by with_unfolding_all rfl)
set_option maxRecDepth 20000 in
theorem b_118i2_18 {d nS : Nat} {x2 : Int32} {zx3 : Value} {M : am_M} {Q : Option Value → am_H → Prop} : am_Wp (d + 1) 118 18 [.ref 18, .ref 43, .int x2, zx3] [] (hp nS M) Q = am_Wp d 33 0 [.ref 43, .int x2, .int 0] [] (hp nS M) (fun v h1 => am_Wp (d + 1) 118 24 [.ref 18, .ref 43, .int x2, zx3] (am_ans v []) h1 Q) := by
  refine (eq_run 3 (q := (21, [.ref 18, .ref 43, .int x2, zx3], [.int 0, .int x2, .ref 43], hp nS M)) (by with_unfolding_all rfl)).trans ?_
  exact eq_call2 (e := (.invokevirtual 103, 3, 0, 33, 193)) (as := [.ref 43, .int x2, .int 0]) (r := []) (n := 3) (m := 3) (by with_unfolding_all rfl) rfl (by decide) (by with_unfolding_all rfl) (by decide) (by with_unfolding_all rfl) ⟨fun _ => am_rec_ok (c := 6) (by with_unfolding_all rfl) (by decide +kernel), fun z => by simp at z⟩
set_option maxRecDepth 20000 in
theorem b_118i2_24 {d nS : Nat} {x2 s0 : Int32} {zx3 : Value} {M : am_M} {Q : Option Value → am_H → Prop} : am_Wp (d + 1) 118 24 [.ref 18, .ref 43, .int x2, zx3] [.int s0] (hp nS M) Q = am_Wp d 106 0 [.ref 18, .int s0] [] (hp nS M) (fun v h1 => am_Wp (d + 1) 118 30 [.ref 18, .ref 43, .int x2, .int s0] (am_ans v []) h1 Q) := by
  refine (eq_run 3 (q := (27, [.ref 18, .ref 43, .int x2, .int s0], [.int s0, .ref 18], hp nS M)) (by with_unfolding_all rfl)).trans ?_
  exact eq_call2 (e := (.invokevirtual 75, 3, 0, 106, 188)) (as := [.ref 18, .int s0]) (r := []) (n := 2) (m := 2) (by with_unfolding_all rfl) rfl (by decide) (by with_unfolding_all rfl) (by decide) (by with_unfolding_all rfl) ⟨fun _ => am_rec_ok (c := 12) (by with_unfolding_all rfl) (by decide +kernel), fun z => by simp at z⟩
set_option maxRecDepth 20000 in
theorem b_118i2_30 {d nS : Nat} {x2 x3 s0 : Int32} {M : am_M} {Q : Option Value → am_H → Prop} : am_Wp d 118 30 [.ref 18, .ref 43, .int x2, .int x3] [.int s0] (hp nS M) Q = if s0 = 0 then am_Wp d 118 45 [.ref 18, .ref 43, .int x2, .int x3] [] (hp nS M) Q else am_Wp d 118 33 [.ref 18, .ref 43, .int x2, .int x3] [] (hp nS M) Q := by
  exact eq_if_eq (by with_unfolding_all rfl)
set_option maxRecDepth 20000 in
theorem b_118i2_33 {d nS : Nat} {x2 x3 : Int32} {M : am_M} {Q : Option Value → am_H → Prop} : am_Wp (d + 1) 118 33 [.ref 18, .ref 43, .int x2, .int x3] [] (hp nS M) Q = am_Wp d 33 0 [.ref 43, .int x2, .int 1] [] (hp nS M) (fun v h1 => am_Wp (d + 1) 118 44 [.ref 18, .ref 43, .int x2, .int x3] (am_ans v [.int x3, .ref 25]) h1 Q) := by
  refine (eq_run 6 (q := (41, [.ref 18, .ref 43, .int x2, .int x3], [.int 1, .int x2, .ref 43, .int x3, .ref 25], hp nS M)) (by with_unfolding_all rfl)).trans ?_
  exact eq_call2 (e := (.invokevirtual 103, 3, 0, 33, 193)) (as := [.ref 43, .int x2, .int 1]) (r := [.int x3, .ref 25]) (n := 3) (m := 3) (by with_unfolding_all rfl) rfl (by decide) (by with_unfolding_all rfl) (by decide) (by with_unfolding_all rfl) ⟨fun _ => am_rec_ok (c := 6) (by with_unfolding_all rfl) (by decide +kernel), fun z => by simp at z⟩
set_option maxRecDepth 20000 in
theorem b_118i2_44 {d nS : Nat} {x2 x3 s1 s2 : Int32} {M : am_M} {Q : Option Value → am_H → Prop} (h1 : vp_in s1 8) : am_Wp d 118 44 [.ref 18, .ref 43, .int x2, .int x3] [.int s2, .int s1, .ref 25] (hp nS M) Q = am_Wp d 118 45 [.ref 18, .ref 43, .int x2, .int x3] [] (hp nS (am_up M 25 s1.toNatClampNeg s2)) Q := by
  exact eq_ast (e := (.iastore, 1, 0, 0, 0)) (by with_unfolding_all rfl) rfl (n := 8) (by with_unfolding_all rfl) (by decide) h1
set_option maxRecDepth 20000 in
theorem b_118i2_45 {d nS : Nat} {x2 x3 : Int32} {M : am_M} {Q : Option Value → am_H → Prop} : am_Wp d 118 45 [.ref 18, .ref 43, .int x2, .int x3] [] (hp nS M) Q = am_Wp d 118 10 [.ref 18, .ref 43, .int (x2 + 1), .int x3] [] (hp nS M) Q := by
  exact eq_run 2 (q := (10, [.ref 18, .ref 43, .int (x2 + 1), .int x3], [], hp nS M)) (by with_unfolding_all rfl)
set_option maxRecDepth 20000 in
theorem b_118i2_51 {d nS : Nat} {x2 : Int32} {zx3 : Value} {M : am_M} {Q : Option Value → am_H → Prop} : am_Wp d 118 51 [.ref 18, .ref 43, .int x2, zx3] [] (hp nS M) Q = Q none (hp nS M) := by
  exact eq_retV2 (e := (.return_, 1, 0, 0, 0)) (by with_unfolding_all rfl) rfl (by with_unfolding_all rfl)
-- LarkExchange$World goodsBy(I)I (119, (18, None))
set_option maxRecDepth 20000 in
theorem b_119_0 {d nS : Nat} {x1 : Int32} {M : am_M} {Q : Option Value → am_H → Prop} : am_Wp d 119 0 [.ref 18, .int x1, .retAddr 0, .retAddr 0] [] (hp nS M) Q = am_Wp d 119 4 [.ref 18, .int x1, .int 0, .int 0] [] (hp nS M) Q := by
  exact eq_run 4 (q := (4, [.ref 18, .int x1, .int 0, .int 0], [], hp nS M)) (by with_unfolding_all rfl)
set_option maxRecDepth 20000 in
theorem b_119_4 {d nS : Nat} {x1 x2 x3 : Int32} {M : am_M} {Q : Option Value → am_H → Prop} : am_Wp d 119 4 [.ref 18, .int x1, .int x2, .int x3] [] (hp nS M) Q = if (M 18 1) ≤ x3 then am_Wp d 119 34 [.ref 18, .int x1, .int x2, .int x3] [] (hp nS M) Q else am_Wp d 119 12 [.ref 18, .int x1, .int x2, .int x3] [] (hp nS M) Q := by
  refine (eq_run 3 (q := (9, [.ref 18, .int x1, .int x2, .int x3], [.int (M 18 1), .int x3], hp nS M)) (by with_unfolding_all rfl)).trans ?_
  exact eq_cmp_ge (by with_unfolding_all rfl)
set_option maxRecDepth 20000 in
theorem b_119_12 {d nS : Nat} {x1 x2 x3 : Int32} {M : am_M} {Q : Option Value → am_H → Prop} (h1 : vp_in x3 8) : am_Wp d 119 12 [.ref 18, .int x1, .int x2, .int x3] [] (hp nS M) Q = if ¬ (M 25 x3.toNatClampNeg) = x1 then am_Wp d 119 28 [.ref 18, .int x1, .int x2, .int x3] [] (hp nS M) Q else am_Wp d 119 22 [.ref 18, .int x1, .int x2, .int x3] [] (hp nS M) Q := by
  refine (eq_run 3 (q := (17, [.ref 18, .int x1, .int x2, .int x3], [.int x3, .ref 25], hp nS M)) (by with_unfolding_all rfl)).trans ?_
  refine (eq_ald (e := (.iaload, 1, 0, 0, 0)) (by with_unfolding_all rfl) rfl (n := 8) (by with_unfolding_all rfl) h1).trans ?_
  refine (eq_run 1 (q := (19, [.ref 18, .int x1, .int x2, .int x3], [.int x1, .int (M 25 x3.toNatClampNeg)], hp nS M)) (by with_unfolding_all rfl)).trans ?_
  exact eq_cmp_ne (by with_unfolding_all rfl)
set_option maxRecDepth 20000 in
theorem b_119_22 {d nS : Nat} {x1 x2 x3 : Int32} {M : am_M} {Q : Option Value → am_H → Prop} : am_Wp d 119 22 [.ref 18, .int x1, .int x2, .int x3] [] (hp nS M) Q = am_Wp d 119 28 [.ref 18, .int x1, .int (x2 ||| (1 <<< (x3 &&& 31))), .int x3] [] (hp nS M) Q := by
  exact eq_run 6 (q := (28, [.ref 18, .int x1, .int (x2 ||| (1 <<< (x3 &&& 31))), .int x3], [], hp nS M)) (by with_unfolding_all rfl)
set_option maxRecDepth 20000 in
theorem b_119_28 {d nS : Nat} {x1 x2 x3 : Int32} {M : am_M} {Q : Option Value → am_H → Prop} : am_Wp d 119 28 [.ref 18, .int x1, .int x2, .int x3] [] (hp nS M) Q = am_Wp d 119 4 [.ref 18, .int x1, .int x2, .int (x3 + 1)] [] (hp nS M) Q := by
  exact eq_run 2 (q := (4, [.ref 18, .int x1, .int x2, .int (x3 + 1)], [], hp nS M)) (by with_unfolding_all rfl)
set_option maxRecDepth 20000 in
theorem b_119_34 {d nS : Nat} {x1 x2 x3 : Int32} {M : am_M} {Q : Option Value → am_H → Prop} : am_Wp d 119 34 [.ref 18, .int x1, .int x2, .int x3] [] (hp nS M) Q = Q (some (.int x2)) (hp nS M) := by
  refine (eq_run 1 (q := (35, [.ref 18, .int x1, .int x2, .int x3], [.int x2], hp nS M)) (by with_unfolding_all rfl)).trans ?_
  exact eq_retI2 (e := (.ireturn, 1, 0, 0, 0)) (t := .int) (by with_unfolding_all rfl) rfl (by with_unfolding_all rfl) rfl
-- LarkExchange$World stockOfAll(I)I (120, (18, None))
set_option maxRecDepth 20000 in
theorem b_120_0 {d nS : Nat} {x1 : Int32} {M : am_M} {Q : Option Value → am_H → Prop} : am_Wp d 120 0 [.ref 18, .int x1, .retAddr 0, .retAddr 0] [] (hp nS M) Q = am_Wp d 120 4 [.ref 18, .int x1, .int 0, .int 0] [] (hp nS M) Q := by
  exact eq_run 4 (q := (4, [.ref 18, .int x1, .int 0, .int 0], [], hp nS M)) (by with_unfolding_all rfl)
set_option maxRecDepth 20000 in
theorem b_120_4 {d nS : Nat} {x1 x2 x3 : Int32} {M : am_M} {Q : Option Value → am_H → Prop} : am_Wp d 120 4 [.ref 18, .int x1, .int x2, .int x3] [] (hp nS M) Q = if (M 18 2) ≤ x3 then am_Wp d 120 27 [.ref 18, .int x1, .int x2, .int x3] [] (hp nS M) Q else am_Wp d 120 12 [.ref 18, .int x1, .int x2, .int x3] [] (hp nS M) Q := by
  refine (eq_run 3 (q := (9, [.ref 18, .int x1, .int x2, .int x3], [.int (M 18 2), .int x3], hp nS M)) (by with_unfolding_all rfl)).trans ?_
  exact eq_cmp_ge (by with_unfolding_all rfl)
set_option maxRecDepth 20000 in
theorem b_120_12 {d nS : Nat} {x1 x2 x3 : Int32} {M : am_M} {Q : Option Value → am_H → Prop} : am_Wp (d + 1) 120 12 [.ref 18, .int x1, .int x2, .int x3] [] (hp nS M) Q = am_Wp d 110 0 [.ref 18, .int x3, .int x1] [] (hp nS M) (fun v h1 => am_Wp (d + 1) 120 19 [.ref 18, .int x1, .int x2, .int x3] (am_ans v [.int x2]) h1 Q) := by
  refine (eq_run 4 (q := (16, [.ref 18, .int x1, .int x2, .int x3], [.int x1, .int x3, .ref 18, .int x2], hp nS M)) (by with_unfolding_all rfl)).trans ?_
  exact eq_call2 (e := (.invokevirtual 106, 3, 0, 110, 194)) (as := [.ref 18, .int x3, .int x1]) (r := [.int x2]) (n := 3) (m := 3) (by with_unfolding_all rfl) rfl (by decide) (by with_unfolding_all rfl) (by decide) (by with_unfolding_all rfl) ⟨fun _ => am_rec_ok (c := 12) (by with_unfolding_all rfl) (by decide +kernel), fun z => by simp at z⟩
set_option maxRecDepth 20000 in
theorem b_120_19 {d nS : Nat} {x1 x2 x3 s0 s1 : Int32} {M : am_M} {Q : Option Value → am_H → Prop} : am_Wp d 120 19 [.ref 18, .int x1, .int x2, .int x3] [.int s1, .int s0] (hp nS M) Q = am_Wp d 120 4 [.ref 18, .int x1, .int (s0 + s1), .int (x3 + 1)] [] (hp nS M) Q := by
  exact eq_run 4 (q := (4, [.ref 18, .int x1, .int (s0 + s1), .int (x3 + 1)], [], hp nS M)) (by with_unfolding_all rfl)
set_option maxRecDepth 20000 in
theorem b_120_27 {d nS : Nat} {x1 x2 x3 : Int32} {M : am_M} {Q : Option Value → am_H → Prop} : am_Wp d 120 27 [.ref 18, .int x1, .int x2, .int x3] [] (hp nS M) Q = Q (some (.int x2)) (hp nS M) := by
  refine (eq_run 1 (q := (28, [.ref 18, .int x1, .int x2, .int x3], [.int x2], hp nS M)) (by with_unfolding_all rfl)).trans ?_
  exact eq_retI2 (e := (.ireturn, 1, 0, 0, 0)) (t := .int) (by with_unfolding_all rfl) rfl (by with_unfolding_all rfl) rfl
-- LarkExchange$World worth(I)I (121, (18, None))
set_option maxRecDepth 20000 in
theorem b_121_0 {d nS : Nat} {x1 : Int32} {M : am_M} {Q : Option Value → am_H → Prop} (h1 : vp_in x1 10) : am_Wp d 121 0 [.ref 18, .int x1, .retAddr 0, .retAddr 0] [] (hp nS M) Q = am_Wp d 121 9 [.ref 18, .int x1, .int (M 27 x1.toNatClampNeg), .int 0] [] (hp nS M) Q := by
  refine (eq_run 3 (q := (5, [.ref 18, .int x1, .retAddr 0, .retAddr 0], [.int x1, .ref 27], hp nS M)) (by with_unfolding_all rfl)).trans ?_
  refine (eq_ald (e := (.iaload, 1, 0, 0, 0)) (by with_unfolding_all rfl) rfl (n := 10) (by with_unfolding_all rfl) h1).trans ?_
  exact eq_run 3 (q := (9, [.ref 18, .int x1, .int (M 27 x1.toNatClampNeg), .int 0], [], hp nS M)) (by with_unfolding_all rfl)
set_option maxRecDepth 20000 in
theorem b_121_9 {d nS : Nat} {x1 x2 x3 : Int32} {M : am_M} {Q : Option Value → am_H → Prop} : am_Wp d 121 9 [.ref 18, .int x1, .int x2, .int x3] [] (hp nS M) Q = if (M 18 1) ≤ x3 then am_Wp d 121 39 [.ref 18, .int x1, .int x2, .int x3] [] (hp nS M) Q else am_Wp d 121 17 [.ref 18, .int x1, .int x2, .int x3] [] (hp nS M) Q := by
  refine (eq_run 3 (q := (14, [.ref 18, .int x1, .int x2, .int x3], [.int (M 18 1), .int x3], hp nS M)) (by with_unfolding_all rfl)).trans ?_
  exact eq_cmp_ge (by with_unfolding_all rfl)
set_option maxRecDepth 20000 in
theorem b_121_17 {d nS : Nat} {x1 x2 x3 : Int32} {M : am_M} {Q : Option Value → am_H → Prop} : am_Wp (d + 1) 121 17 [.ref 18, .int x1, .int x2, .int x3] [] (hp nS M) Q = am_Wp d 110 0 [.ref 18, .int x1, .int x3] [] (hp nS M) (fun v h1 => am_Wp (d + 1) 121 24 [.ref 18, .int x1, .int x2, .int x3] (am_ans v [.int x2]) h1 Q) := by
  refine (eq_run 4 (q := (21, [.ref 18, .int x1, .int x2, .int x3], [.int x3, .int x1, .ref 18, .int x2], hp nS M)) (by with_unfolding_all rfl)).trans ?_
  exact eq_call2 (e := (.invokevirtual 106, 3, 0, 110, 194)) (as := [.ref 18, .int x1, .int x3]) (r := [.int x2]) (n := 3) (m := 3) (by with_unfolding_all rfl) rfl (by decide) (by with_unfolding_all rfl) (by decide) (by with_unfolding_all rfl) ⟨fun _ => am_rec_ok (c := 12) (by with_unfolding_all rfl) (by decide +kernel), fun z => by simp at z⟩
set_option maxRecDepth 20000 in
theorem b_121_24 {d nS : Nat} {x1 x2 x3 s0 s1 : Int32} {M : am_M} {Q : Option Value → am_H → Prop} (h1 : vp_in x3 8) : am_Wp d 121 24 [.ref 18, .int x1, .int x2, .int x3] [.int s1, .int s0] (hp nS M) Q = am_Wp d 121 9 [.ref 18, .int x1, .int (s0 + (s1 * (M 26 x3.toNatClampNeg))), .int (x3 + 1)] [] (hp nS M) Q := by
  refine (eq_run 3 (q := (29, [.ref 18, .int x1, .int x2, .int x3], [.int x3, .ref 26, .int s1, .int s0], hp nS M)) (by with_unfolding_all rfl)).trans ?_
  refine (eq_ald (e := (.iaload, 1, 0, 0, 0)) (by with_unfolding_all rfl) rfl (n := 8) (by with_unfolding_all rfl) h1).trans ?_
  exact eq_run 5 (q := (9, [.ref 18, .int x1, .int (s0 + (s1 * (M 26 x3.toNatClampNeg))), .int (x3 + 1)], [], hp nS M)) (by with_unfolding_all rfl)
set_option maxRecDepth 20000 in
theorem b_121_39 {d nS : Nat} {x1 x2 x3 : Int32} {M : am_M} {Q : Option Value → am_H → Prop} : am_Wp d 121 39 [.ref 18, .int x1, .int x2, .int x3] [] (hp nS M) Q = Q (some (.int x2)) (hp nS M) := by
  refine (eq_run 1 (q := (40, [.ref 18, .int x1, .int x2, .int x3], [.int x2], hp nS M)) (by with_unfolding_all rfl)).trans ?_
  exact eq_retI2 (e := (.ireturn, 1, 0, 0, 0)) (t := .int) (by with_unfolding_all rfl) rfl (by with_unfolding_all rfl) rfl
-- LarkExchange state(I)I (123, (16, None))
set_option maxRecDepth 20000 in
theorem b_123_0 {d nS : Nat} {x1 : Int32} {M : am_M} {Q : Option Value → am_H → Prop} : am_Wp (d + 1) 123 0 [.ref 16, .int x1, .retAddr 0] [] (hp nS M) Q = am_Wp d 37 0 [.ref 113] [] (hp nS (am_up M 18 5 x1)) (fun v h1 => am_Wp (d + 1) 123 29 [.ref 16, .int x1, .int (M 18 5)] (am_ans v []) h1 Q) := by
  refine (eq_run 12 (q := (26, [.ref 16, .int x1, .int (M 18 5)], [.ref 113], hp nS (am_up M 18 5 x1))) (by with_unfolding_all rfl)).trans ?_
  exact eq_call2 (e := (.invokevirtual 54, 3, 0, 37, 6)) (as := [.ref 113]) (r := []) (n := 1) (m := 1) (by with_unfolding_all rfl) rfl (by decide) (by with_unfolding_all rfl) (by decide) (by with_unfolding_all rfl) ⟨fun _ => am_rec_ok (c := 7) (by with_unfolding_all rfl) (by decide +kernel), fun z => by simp at z⟩
set_option maxRecDepth 20000 in
theorem b_123_29 {d nS : Nat} {x1 x2 : Int32} {M : am_M} {Q : Option Value → am_H → Prop} : am_Wp d 123 29 [.ref 16, .int x1, .int x2] [] (hp nS M) Q = Q (some (.int x2)) (hp nS M) := by
  refine (eq_run 1 (q := (30, [.ref 16, .int x1, .int x2], [.int x2], hp nS M)) (by with_unfolding_all rfl)).trans ?_
  exact eq_retI2 (e := (.ireturn, 1, 0, 0, 0)) (t := .int) (by with_unfolding_all rfl) rfl (by with_unfolding_all rfl) rfl
-- LarkExchange lark(I)I (124, (16, None))
set_option maxRecDepth 20000 in
theorem b_124_0 {d nS : Nat} {x1 : Int32} {M : am_M} {Q : Option Value → am_H → Prop} : am_Wp (d + 1) 124 0 [.ref 16, .int x1, .retAddr 0, .retAddr 0] [] (hp nS M) Q = am_Wp d 125 0 [.int x1, .int 0, .int 9] [] (hp nS M) (fun v h1 => am_Wp (d + 1) 124 15 [.ref 16, .int x1, .ref 18, .retAddr 0] (am_ans v []) h1 Q) := by
  refine (eq_run 7 (q := (12, [.ref 16, .int x1, .ref 18, .retAddr 0], [.int 9, .int 0, .int x1], hp nS M)) (by with_unfolding_all rfl)).trans ?_
  exact eq_call2 (e := (.invokestatic 57, 3, 1, 125, 7)) (as := [.int x1, .int 0, .int 9]) (r := []) (n := 3) (m := 3) (by with_unfolding_all rfl) rfl (by decide) (by with_unfolding_all rfl) (by decide) (by with_unfolding_all rfl) ⟨fun z => absurd z (by decide), fun z => by simp at z⟩
set_option maxRecDepth 20000 in
theorem b_124_15 {d nS : Nat} {x1 s0 : Int32} {M : am_M} {Q : Option Value → am_H → Prop} : am_Wp d 124 15 [.ref 16, .int x1, .ref 18, .retAddr 0] [.int s0] (hp nS M) Q = if ¬ s0 = 0 then am_Wp d 124 27 [.ref 16, .int x1, .ref 18, .retAddr 0] [] (hp nS M) Q else am_Wp d 124 18 [.ref 16, .int x1, .ref 18, .retAddr 0] [] (hp nS M) Q := by
  exact eq_if_ne (by with_unfolding_all rfl)
set_option maxRecDepth 20000 in
theorem b_124_18 {d nS : Nat} {x1 : Int32} {M : am_M} {Q : Option Value → am_H → Prop} : am_Wp d 124 18 [.ref 16, .int x1, .ref 18, .retAddr 0] [] (hp nS M) Q = if (M 18 0) < 6 then am_Wp d 124 29 [.ref 16, .int x1, .ref 18, .retAddr 0] [] (hp nS M) Q else am_Wp d 124 27 [.ref 16, .int x1, .ref 18, .retAddr 0] [] (hp nS M) Q := by
  refine (eq_run 3 (q := (24, [.ref 16, .int x1, .ref 18, .retAddr 0], [.int 6, .int (M 18 0)], hp nS M)) (by with_unfolding_all rfl)).trans ?_
  exact eq_cmp_lt (by with_unfolding_all rfl)
set_option maxRecDepth 20000 in
theorem b_124_27 {d nS : Nat} {x1 : Int32} {M : am_M} {Q : Option Value → am_H → Prop} : am_Wp d 124 27 [.ref 16, .int x1, .ref 18, .retAddr 0] [] (hp nS M) Q = Q (some (.int (-1))) (hp nS M) := by
  refine (eq_run 1 (q := (28, [.ref 16, .int x1, .ref 18, .retAddr 0], [.int (-1)], hp nS M)) (by with_unfolding_all rfl)).trans ?_
  exact eq_retI2 (e := (.ireturn, 1, 0, 0, 0)) (t := .int) (by with_unfolding_all rfl) rfl (by with_unfolding_all rfl) rfl
set_option maxRecDepth 20000 in
theorem b_124_29 {d nS : Nat} {x1 : Int32} {M : am_M} {Q : Option Value → am_H → Prop} (h1 : vp_in (M 18 0) 6) : am_Wp (d + 1) 124 29 [.ref 16, .int x1, .ref 18, .retAddr 0] [] (hp nS M) Q = am_Wp d 37 0 [.ref 113] [] (hp nS (am_up (am_up M 19 (M 18 0).toNatClampNeg x1) 18 0 ((M 18 0) + 1))) (fun v h1 => am_Wp (d + 1) 124 55 [.ref 16, .int x1, .ref 18, .int (M 18 0)] (am_ans v []) h1 Q) := by
  refine (eq_run 7 (q := (40, [.ref 16, .int x1, .ref 18, .int (M 18 0)], [.int x1, .int (M 18 0), .ref 19], hp nS M)) (by with_unfolding_all rfl)).trans ?_
  refine (eq_ast (e := (.iastore, 1, 0, 0, 0)) (by with_unfolding_all rfl) rfl (n := 6) (by with_unfolding_all rfl) (by decide) h1).trans ?_
  refine (eq_run 7 (q := (52, [.ref 16, .int x1, .ref 18, .int (M 18 0)], [.ref 113], hp nS (am_up (am_up M 19 (M 18 0).toNatClampNeg x1) 18 0 ((M 18 0) + 1)))) (by with_unfolding_all rfl)).trans ?_
  exact eq_call2 (e := (.invokevirtual 54, 3, 0, 37, 6)) (as := [.ref 113]) (r := []) (n := 1) (m := 1) (by with_unfolding_all rfl) rfl (by decide) (by with_unfolding_all rfl) (by decide) (by with_unfolding_all rfl) ⟨fun _ => am_rec_ok (c := 7) (by with_unfolding_all rfl) (by decide +kernel), fun z => by simp at z⟩
set_option maxRecDepth 20000 in
theorem b_124_55 {d nS : Nat} {x1 x3 : Int32} {M : am_M} {Q : Option Value → am_H → Prop} : am_Wp d 124 55 [.ref 16, .int x1, .ref 18, .int x3] [] (hp nS M) Q = Q (some (.int x3)) (hp nS M) := by
  refine (eq_run 1 (q := (56, [.ref 16, .int x1, .ref 18, .int x3], [.int x3], hp nS M)) (by with_unfolding_all rfl)).trans ?_
  exact eq_retI2 (e := (.ireturn, 1, 0, 0, 0)) (t := .int) (by with_unfolding_all rfl) rfl (by with_unfolding_all rfl) rfl
-- LarkExchange isOutside(III)Z (125, (None, None, None))
set_option maxRecDepth 20000 in
theorem b_125_0 {d nS : Nat} {x0 x1 x2 : Int32} {M : am_M} {Q : Option Value → am_H → Prop} : am_Wp d 125 0 [.int x0, .int x1, .int x2] [] (hp nS M) Q = if x0 < x1 then am_Wp d 125 10 [.int x0, .int x1, .int x2] [] (hp nS M) Q else am_Wp d 125 5 [.int x0, .int x1, .int x2] [] (hp nS M) Q := by
  refine (eq_run 2 (q := (2, [.int x0, .int x1, .int x2], [.int x1, .int x0], hp nS M)) (by with_unfolding_all rfl)).trans ?_
  exact eq_cmp_lt (by with_unfolding_all rfl)
set_option maxRecDepth 20000 in
theorem b_125_5 {d nS : Nat} {x0 x1 x2 : Int32} {M : am_M} {Q : Option Value → am_H → Prop} : am_Wp d 125 5 [.int x0, .int x1, .int x2] [] (hp nS M) Q = if x0 ≤ x2 then am_Wp d 125 14 [.int x0, .int x1, .int x2] [] (hp nS M) Q else am_Wp d 125 10 [.int x0, .int x1, .int x2] [] (hp nS M) Q := by
  refine (eq_run 2 (q := (7, [.int x0, .int x1, .int x2], [.int x2, .int x0], hp nS M)) (by with_unfolding_all rfl)).trans ?_
  exact eq_cmp_le (by with_unfolding_all rfl)
set_option maxRecDepth 20000 in
theorem b_125_10 {d nS : Nat} {x0 x1 x2 : Int32} {M : am_M} {Q : Option Value → am_H → Prop} : am_Wp d 125 10 [.int x0, .int x1, .int x2] [] (hp nS M) Q = am_Wp d 125 15 [.int x0, .int x1, .int x2] [.int 1] (hp nS M) Q := by
  exact eq_run 2 (q := (15, [.int x0, .int x1, .int x2], [.int 1], hp nS M)) (by with_unfolding_all rfl)
set_option maxRecDepth 20000 in
theorem b_125_14 {d nS : Nat} {x0 x1 x2 : Int32} {M : am_M} {Q : Option Value → am_H → Prop} : am_Wp d 125 14 [.int x0, .int x1, .int x2] [] (hp nS M) Q = am_Wp d 125 15 [.int x0, .int x1, .int x2] [.int 0] (hp nS M) Q := by
  exact eq_run 1 (q := (15, [.int x0, .int x1, .int x2], [.int 0], hp nS M)) (by with_unfolding_all rfl)
set_option maxRecDepth 20000 in
theorem b_125_15 {d nS : Nat} {x0 x1 x2 s0 : Int32} {M : am_M} {Q : Option Value → am_H → Prop} (h1 : am_rok .boolean s0 = true) : am_Wp d 125 15 [.int x0, .int x1, .int x2] [.int s0] (hp nS M) Q = Q (some (.int s0)) (hp nS M) := by
  exact eq_retI2 (e := (.ireturn, 1, 0, 0, 0)) (t := .boolean) (by with_unfolding_all rfl) rfl (by with_unfolding_all rfl) h1
-- LarkExchange good(I)I (126, (16, None))
set_option maxRecDepth 20000 in
theorem b_126_0 {d nS : Nat} {x1 : Int32} {M : am_M} {Q : Option Value → am_H → Prop} : am_Wp (d + 1) 126 0 [.ref 16, .int x1, .retAddr 0, .retAddr 0] [] (hp nS M) Q = am_Wp d 125 0 [.int x1, .int 1, .int 99] [] (hp nS M) (fun v h1 => am_Wp (d + 1) 126 15 [.ref 16, .int x1, .ref 18, .retAddr 0] (am_ans v []) h1 Q) := by
  refine (eq_run 7 (q := (12, [.ref 16, .int x1, .ref 18, .retAddr 0], [.int 99, .int 1, .int x1], hp nS M)) (by with_unfolding_all rfl)).trans ?_
  exact eq_call2 (e := (.invokestatic 57, 3, 1, 125, 7)) (as := [.int x1, .int 1, .int 99]) (r := []) (n := 3) (m := 3) (by with_unfolding_all rfl) rfl (by decide) (by with_unfolding_all rfl) (by decide) (by with_unfolding_all rfl) ⟨fun z => absurd z (by decide), fun z => by simp at z⟩
set_option maxRecDepth 20000 in
theorem b_126_15 {d nS : Nat} {x1 s0 : Int32} {M : am_M} {Q : Option Value → am_H → Prop} : am_Wp d 126 15 [.ref 16, .int x1, .ref 18, .retAddr 0] [.int s0] (hp nS M) Q = if ¬ s0 = 0 then am_Wp d 126 27 [.ref 16, .int x1, .ref 18, .retAddr 0] [] (hp nS M) Q else am_Wp d 126 18 [.ref 16, .int x1, .ref 18, .retAddr 0] [] (hp nS M) Q := by
  exact eq_if_ne (by with_unfolding_all rfl)
set_option maxRecDepth 20000 in
theorem b_126_18 {d nS : Nat} {x1 : Int32} {M : am_M} {Q : Option Value → am_H → Prop} : am_Wp d 126 18 [.ref 16, .int x1, .ref 18, .retAddr 0] [] (hp nS M) Q = if (M 18 1) < 8 then am_Wp d 126 29 [.ref 16, .int x1, .ref 18, .retAddr 0] [] (hp nS M) Q else am_Wp d 126 27 [.ref 16, .int x1, .ref 18, .retAddr 0] [] (hp nS M) Q := by
  refine (eq_run 3 (q := (24, [.ref 16, .int x1, .ref 18, .retAddr 0], [.int 8, .int (M 18 1)], hp nS M)) (by with_unfolding_all rfl)).trans ?_
  exact eq_cmp_lt (by with_unfolding_all rfl)
set_option maxRecDepth 20000 in
theorem b_126_27 {d nS : Nat} {x1 : Int32} {M : am_M} {Q : Option Value → am_H → Prop} : am_Wp d 126 27 [.ref 16, .int x1, .ref 18, .retAddr 0] [] (hp nS M) Q = Q (some (.int (-1))) (hp nS M) := by
  refine (eq_run 1 (q := (28, [.ref 16, .int x1, .ref 18, .retAddr 0], [.int (-1)], hp nS M)) (by with_unfolding_all rfl)).trans ?_
  exact eq_retI2 (e := (.ireturn, 1, 0, 0, 0)) (t := .int) (by with_unfolding_all rfl) rfl (by with_unfolding_all rfl) rfl
set_option maxRecDepth 20000 in
theorem b_126_29 {d nS : Nat} {x1 : Int32} {M : am_M} {Q : Option Value → am_H → Prop} (h1 : vp_in (M 18 1) 8) (h2 : vp_in (M 18 1) 8) (h3 : vp_in (M 18 1) 8) : am_Wp (d + 1) 126 29 [.ref 16, .int x1, .ref 18, .retAddr 0] [] (hp nS M) Q = am_Wp d 37 0 [.ref 113] [] (hp nS (am_up (am_up (am_up (am_up M 24 (M 18 1).toNatClampNeg x1) 25 (M 18 1).toNatClampNeg (-1)) 26 (M 18 1).toNatClampNeg x1) 18 1 ((M 18 1) + 1))) (fun v h1 => am_Wp (d + 1) 126 69 [.ref 16, .int x1, .ref 18, .int (M 18 1)] (am_ans v []) h1 Q) := by
  refine (eq_run 7 (q := (40, [.ref 16, .int x1, .ref 18, .int (M 18 1)], [.int x1, .int (M 18 1), .ref 24], hp nS M)) (by with_unfolding_all rfl)).trans ?_
  refine (eq_ast (e := (.iastore, 1, 0, 0, 0)) (by with_unfolding_all rfl) rfl (n := 8) (by with_unfolding_all rfl) (by decide) h1).trans ?_
  refine (eq_run 4 (q := (47, [.ref 16, .int x1, .ref 18, .int (M 18 1)], [.int (-1), .int (M 18 1), .ref 25], hp nS (am_up M 24 (M 18 1).toNatClampNeg x1))) (by with_unfolding_all rfl)).trans ?_
  refine (eq_ast (e := (.iastore, 1, 0, 0, 0)) (by with_unfolding_all rfl) rfl (n := 8) (by with_unfolding_all rfl) (by decide) h2).trans ?_
  refine (eq_run 4 (q := (54, [.ref 16, .int x1, .ref 18, .int (M 18 1)], [.int x1, .int (M 18 1), .ref 26], hp nS (am_up (am_up M 24 (M 18 1).toNatClampNeg x1) 25 (M 18 1).toNatClampNeg (-1)))) (by with_unfolding_all rfl)).trans ?_
  refine (eq_ast (e := (.iastore, 1, 0, 0, 0)) (by with_unfolding_all rfl) rfl (n := 8) (by with_unfolding_all rfl) (by decide) h3).trans ?_
  refine (eq_run 7 (q := (66, [.ref 16, .int x1, .ref 18, .int (M 18 1)], [.ref 113], hp nS (am_up (am_up (am_up (am_up M 24 (M 18 1).toNatClampNeg x1) 25 (M 18 1).toNatClampNeg (-1)) 26 (M 18 1).toNatClampNeg x1) 18 1 ((M 18 1) + 1)))) (by with_unfolding_all rfl)).trans ?_
  exact eq_call2 (e := (.invokevirtual 54, 3, 0, 37, 6)) (as := [.ref 113]) (r := []) (n := 1) (m := 1) (by with_unfolding_all rfl) rfl (by decide) (by with_unfolding_all rfl) (by decide) (by with_unfolding_all rfl) ⟨fun _ => am_rec_ok (c := 7) (by with_unfolding_all rfl) (by decide +kernel), fun z => by simp at z⟩
set_option maxRecDepth 20000 in
theorem b_126_69 {d nS : Nat} {x1 x3 : Int32} {M : am_M} {Q : Option Value → am_H → Prop} : am_Wp d 126 69 [.ref 16, .int x1, .ref 18, .int x3] [] (hp nS M) Q = Q (some (.int x3)) (hp nS M) := by
  refine (eq_run 1 (q := (70, [.ref 16, .int x1, .ref 18, .int x3], [.int x3], hp nS M)) (by with_unfolding_all rfl)).trans ?_
  exact eq_retI2 (e := (.ireturn, 1, 0, 0, 0)) (t := .int) (by with_unfolding_all rfl) rfl (by with_unfolding_all rfl) rfl
-- LarkExchange trader(I)I (127, (16, None))
set_option maxRecDepth 20000 in
theorem b_127_0 {d nS : Nat} {x1 : Int32} {M : am_M} {Q : Option Value → am_H → Prop} : am_Wp (d + 1) 127 0 [.ref 16, .int x1, .retAddr 0, .retAddr 0] [] (hp nS M) Q = am_Wp d 125 0 [.int x1, .int 0, .int 9999] [] (hp nS M) (fun v h1 => am_Wp (d + 1) 127 16 [.ref 16, .int x1, .ref 18, .retAddr 0] (am_ans v []) h1 Q) := by
  refine (eq_run 7 (q := (13, [.ref 16, .int x1, .ref 18, .retAddr 0], [.int 9999, .int 0, .int x1], hp nS M)) (by with_unfolding_all rfl)).trans ?_
  exact eq_call2 (e := (.invokestatic 57, 3, 1, 125, 7)) (as := [.int x1, .int 0, .int 9999]) (r := []) (n := 3) (m := 3) (by with_unfolding_all rfl) rfl (by decide) (by with_unfolding_all rfl) (by decide) (by with_unfolding_all rfl) ⟨fun z => absurd z (by decide), fun z => by simp at z⟩
set_option maxRecDepth 20000 in
theorem b_127_16 {d nS : Nat} {x1 s0 : Int32} {M : am_M} {Q : Option Value → am_H → Prop} : am_Wp d 127 16 [.ref 16, .int x1, .ref 18, .retAddr 0] [.int s0] (hp nS M) Q = if ¬ s0 = 0 then am_Wp d 127 28 [.ref 16, .int x1, .ref 18, .retAddr 0] [] (hp nS M) Q else am_Wp d 127 19 [.ref 16, .int x1, .ref 18, .retAddr 0] [] (hp nS M) Q := by
  exact eq_if_ne (by with_unfolding_all rfl)
set_option maxRecDepth 20000 in
theorem b_127_19 {d nS : Nat} {x1 : Int32} {M : am_M} {Q : Option Value → am_H → Prop} : am_Wp d 127 19 [.ref 16, .int x1, .ref 18, .retAddr 0] [] (hp nS M) Q = if (M 18 2) < 10 then am_Wp d 127 30 [.ref 16, .int x1, .ref 18, .retAddr 0] [] (hp nS M) Q else am_Wp d 127 28 [.ref 16, .int x1, .ref 18, .retAddr 0] [] (hp nS M) Q := by
  refine (eq_run 3 (q := (25, [.ref 16, .int x1, .ref 18, .retAddr 0], [.int 10, .int (M 18 2)], hp nS M)) (by with_unfolding_all rfl)).trans ?_
  exact eq_cmp_lt (by with_unfolding_all rfl)
set_option maxRecDepth 20000 in
theorem b_127_28 {d nS : Nat} {x1 : Int32} {M : am_M} {Q : Option Value → am_H → Prop} : am_Wp d 127 28 [.ref 16, .int x1, .ref 18, .retAddr 0] [] (hp nS M) Q = Q (some (.int (-1))) (hp nS M) := by
  refine (eq_run 1 (q := (29, [.ref 16, .int x1, .ref 18, .retAddr 0], [.int (-1)], hp nS M)) (by with_unfolding_all rfl)).trans ?_
  exact eq_retI2 (e := (.ireturn, 1, 0, 0, 0)) (t := .int) (by with_unfolding_all rfl) rfl (by with_unfolding_all rfl) rfl
set_option maxRecDepth 20000 in
theorem b_127_30 {d nS : Nat} {x1 : Int32} {M : am_M} {Q : Option Value → am_H → Prop} (h1 : vp_in (M 18 2) 10) : am_Wp (d + 1) 127 30 [.ref 16, .int x1, .ref 18, .retAddr 0] [] (hp nS M) Q = am_Wp d 37 0 [.ref 113] [] (hp nS (am_up (am_up M 27 (M 18 2).toNatClampNeg x1) 18 2 ((M 18 2) + 1))) (fun v h1 => am_Wp (d + 1) 127 56 [.ref 16, .int x1, .ref 18, .int (M 18 2)] (am_ans v []) h1 Q) := by
  refine (eq_run 7 (q := (41, [.ref 16, .int x1, .ref 18, .int (M 18 2)], [.int x1, .int (M 18 2), .ref 27], hp nS M)) (by with_unfolding_all rfl)).trans ?_
  refine (eq_ast (e := (.iastore, 1, 0, 0, 0)) (by with_unfolding_all rfl) rfl (n := 10) (by with_unfolding_all rfl) (by decide) h1).trans ?_
  refine (eq_run 7 (q := (53, [.ref 16, .int x1, .ref 18, .int (M 18 2)], [.ref 113], hp nS (am_up (am_up M 27 (M 18 2).toNatClampNeg x1) 18 2 ((M 18 2) + 1)))) (by with_unfolding_all rfl)).trans ?_
  exact eq_call2 (e := (.invokevirtual 54, 3, 0, 37, 6)) (as := [.ref 113]) (r := []) (n := 1) (m := 1) (by with_unfolding_all rfl) rfl (by decide) (by with_unfolding_all rfl) (by decide) (by with_unfolding_all rfl) ⟨fun _ => am_rec_ok (c := 7) (by with_unfolding_all rfl) (by decide +kernel), fun z => by simp at z⟩
set_option maxRecDepth 20000 in
theorem b_127_56 {d nS : Nat} {x1 x3 : Int32} {M : am_M} {Q : Option Value → am_H → Prop} : am_Wp d 127 56 [.ref 16, .int x1, .ref 18, .int x3] [] (hp nS M) Q = Q (some (.int x3)) (hp nS M) := by
  refine (eq_run 1 (q := (57, [.ref 16, .int x1, .ref 18, .int x3], [.int x3], hp nS M)) (by with_unfolding_all rfl)).trans ?_
  exact eq_retI2 (e := (.ireturn, 1, 0, 0, 0)) (t := .int) (by with_unfolding_all rfl) rfl (by with_unfolding_all rfl) rfl
-- LarkExchange set(III)Z (128, (16, None, None, None))
set_option maxRecDepth 20000 in
theorem b_128_0 {d nS : Nat} {x1 x2 x3 : Int32} {M : am_M} {Q : Option Value → am_H → Prop} : am_Wp d 128 0 [.ref 16, .int x1, .int x2, .int x3, .retAddr 0] [] (hp nS M) Q = if 2 < x1 then am_Wp d 128 21 [.ref 16, .int x1, .int x2, .int x3, .retAddr 0] [] (hp nS M) Q else am_Wp d 128 5 [.ref 16, .int x1, .int x2, .int x3, .retAddr 0] [] (hp nS M) Q := by
  refine (eq_run 2 (q := (2, [.ref 16, .int x1, .int x2, .int x3, .retAddr 0], [.int 2, .int x1], hp nS M)) (by with_unfolding_all rfl)).trans ?_
  exact eq_cmp_gt (by with_unfolding_all rfl)
set_option maxRecDepth 20000 in
theorem b_128_5 {d nS : Nat} {x1 x2 x3 : Int32} {M : am_M} {Q : Option Value → am_H → Prop} : am_Wp (d + 1) 128 5 [.ref 16, .int x1, .int x2, .int x3, .retAddr 0] [] (hp nS M) Q = am_Wp d 103 0 [.ref 18, .int x1, .int x2, .int x3] [] (hp nS M) (fun v h1 => am_Wp (d + 1) 128 18 [.ref 16, .int x1, .int x2, .int x3, .retAddr 0] (am_ans v []) h1 Q) := by
  refine (eq_run 6 (q := (15, [.ref 16, .int x1, .int x2, .int x3, .retAddr 0], [.int x3, .int x2, .int x1, .ref 18], hp nS M)) (by with_unfolding_all rfl)).trans ?_
  exact eq_call2 (e := (.invokevirtual 86, 3, 0, 103, 8)) (as := [.ref 18, .int x1, .int x2, .int x3]) (r := []) (n := 4) (m := 4) (by with_unfolding_all rfl) rfl (by decide) (by with_unfolding_all rfl) (by decide) (by with_unfolding_all rfl) ⟨fun _ => am_rec_ok (c := 12) (by with_unfolding_all rfl) (by decide +kernel), fun z => by simp at z⟩
set_option maxRecDepth 20000 in
theorem b_128_18 {d nS : Nat} {x1 x2 x3 s0 : Int32} {M : am_M} {Q : Option Value → am_H → Prop} : am_Wp d 128 18 [.ref 16, .int x1, .int x2, .int x3, .retAddr 0] [.int s0] (hp nS M) Q = am_Wp d 128 34 [.ref 16, .int x1, .int x2, .int x3, .retAddr 0] [.int s0] (hp nS M) Q := by
  exact eq_run 1 (q := (34, [.ref 16, .int x1, .int x2, .int x3, .retAddr 0], [.int s0], hp nS M)) (by with_unfolding_all rfl)
set_option maxRecDepth 20000 in
theorem b_128_21 {d nS : Nat} {x1 x2 x3 : Int32} {M : am_M} {Q : Option Value → am_H → Prop} : am_Wp (d + 1) 128 21 [.ref 16, .int x1, .int x2, .int x3, .retAddr 0] [] (hp nS M) Q = am_Wp d 105 0 [.ref 18, .int x1, .int x2, .int x3] [] (hp nS M) (fun v h1 => am_Wp (d + 1) 128 34 [.ref 16, .int x1, .int x2, .int x3, .retAddr 0] (am_ans v []) h1 Q) := by
  refine (eq_run 6 (q := (31, [.ref 16, .int x1, .int x2, .int x3, .retAddr 0], [.int x3, .int x2, .int x1, .ref 18], hp nS M)) (by with_unfolding_all rfl)).trans ?_
  exact eq_call2 (e := (.invokevirtual 89, 3, 0, 105, 9)) (as := [.ref 18, .int x1, .int x2, .int x3]) (r := []) (n := 4) (m := 4) (by with_unfolding_all rfl) rfl (by decide) (by with_unfolding_all rfl) (by decide) (by with_unfolding_all rfl) ⟨fun _ => am_rec_ok (c := 12) (by with_unfolding_all rfl) (by decide +kernel), fun z => by simp at z⟩
set_option maxRecDepth 20000 in
theorem b_128_34 {d nS : Nat} {x1 x2 x3 s0 : Int32} {M : am_M} {Q : Option Value → am_H → Prop} : am_Wp d 128 34 [.ref 16, .int x1, .int x2, .int x3, .retAddr 0] [.int s0] (hp nS M) Q = if s0 = 0 then am_Wp d 128 48 [.ref 16, .int x1, .int x2, .int x3, .int s0] [] (hp nS M) Q else am_Wp d 128 41 [.ref 16, .int x1, .int x2, .int x3, .int s0] [] (hp nS M) Q := by
  refine (eq_run 2 (q := (38, [.ref 16, .int x1, .int x2, .int x3, .int s0], [.int s0], hp nS M)) (by with_unfolding_all rfl)).trans ?_
  exact eq_if_eq (by with_unfolding_all rfl)
set_option maxRecDepth 20000 in
theorem b_128_41 {d nS : Nat} {x1 x2 x3 x4 : Int32} {M : am_M} {Q : Option Value → am_H → Prop} : am_Wp (d + 1) 128 41 [.ref 16, .int x1, .int x2, .int x3, .int x4] [] (hp nS M) Q = am_Wp d 37 0 [.ref 113] [] (hp nS M) (fun v h1 => am_Wp (d + 1) 128 48 [.ref 16, .int x1, .int x2, .int x3, .int x4] (am_ans v []) h1 Q) := by
  refine (eq_run 2 (q := (45, [.ref 16, .int x1, .int x2, .int x3, .int x4], [.ref 113], hp nS M)) (by with_unfolding_all rfl)).trans ?_
  exact eq_call2 (e := (.invokevirtual 54, 3, 0, 37, 6)) (as := [.ref 113]) (r := []) (n := 1) (m := 1) (by with_unfolding_all rfl) rfl (by decide) (by with_unfolding_all rfl) (by decide) (by with_unfolding_all rfl) ⟨fun _ => am_rec_ok (c := 7) (by with_unfolding_all rfl) (by decide +kernel), fun z => by simp at z⟩
set_option maxRecDepth 20000 in
theorem b_128_48 {d nS : Nat} {x1 x2 x3 x4 : Int32} {M : am_M} {Q : Option Value → am_H → Prop} (h1 : am_rok .boolean x4 = true) : am_Wp d 128 48 [.ref 16, .int x1, .int x2, .int x3, .int x4] [] (hp nS M) Q = Q (some (.int x4)) (hp nS M) := by
  refine (eq_run 1 (q := (50, [.ref 16, .int x1, .int x2, .int x3, .int x4], [.int x4], hp nS M)) (by with_unfolding_all rfl)).trans ?_
  exact eq_retI2 (e := (.ireturn, 1, 0, 0, 0)) (t := .boolean) (by with_unfolding_all rfl) rfl (by with_unfolding_all rfl) h1
-- LarkExchange act(III)Z (129, (16, None, None, None))
set_option maxRecDepth 20000 in
theorem b_129_0 {d nS : Nat} {x1 x2 x3 : Int32} {M : am_M} {Q : Option Value → am_H → Prop} : am_Wp (d + 1) 129 0 [.ref 16, .int x1, .int x2, .int x3, .retAddr 0] [] (hp nS M) Q = am_Wp d 130 0 [.ref 16, .int x1, .int x2, .int x3, .retAddr 0] [] (hp nS M) (fun v h1 => am_Wp (d + 1) 129 7 [.ref 16, .int x1, .int x2, .int x3, .retAddr 0] (am_ans v []) h1 Q) := by
  refine (eq_run 4 (q := (4, [.ref 16, .int x1, .int x2, .int x3, .retAddr 0], [.int x3, .int x2, .int x1, .ref 16], hp nS M)) (by with_unfolding_all rfl)).trans ?_
  exact eq_call2 (e := (.invokevirtual 92, 3, 0, 130, 10)) (as := [.ref 16, .int x1, .int x2, .int x3]) (r := []) (n := 4) (m := 5) (by with_unfolding_all rfl) rfl (by decide) (by with_unfolding_all rfl) (by decide) (by with_unfolding_all rfl) ⟨fun _ => am_rec_ok (c := 13) (by with_unfolding_all rfl) (by decide +kernel), fun z => by simp at z⟩
set_option maxRecDepth 20000 in
theorem b_129_7 {d nS : Nat} {x1 x2 x3 s0 : Int32} {M : am_M} {Q : Option Value → am_H → Prop} : am_Wp d 129 7 [.ref 16, .int x1, .int x2, .int x3, .retAddr 0] [.int s0] (hp nS M) Q = if ¬ s0 = 0 then am_Wp d 129 12 [.ref 16, .int x1, .int x2, .int x3, .retAddr 0] [] (hp nS M) Q else am_Wp d 129 10 [.ref 16, .int x1, .int x2, .int x3, .retAddr 0] [] (hp nS M) Q := by
  exact eq_if_ne (by with_unfolding_all rfl)
set_option maxRecDepth 20000 in
theorem b_129_10 {d nS : Nat} {x1 x2 x3 : Int32} {M : am_M} {Q : Option Value → am_H → Prop} : am_Wp d 129 10 [.ref 16, .int x1, .int x2, .int x3, .retAddr 0] [] (hp nS M) Q = Q (some (.int 0)) (hp nS M) := by
  refine (eq_run 1 (q := (11, [.ref 16, .int x1, .int x2, .int x3, .retAddr 0], [.int 0], hp nS M)) (by with_unfolding_all rfl)).trans ?_
  exact eq_retI2 (e := (.ireturn, 1, 0, 0, 0)) (t := .boolean) (by with_unfolding_all rfl) rfl (by with_unfolding_all rfl) rfl
set_option maxRecDepth 20000 in
theorem b_129_12 {d nS : Nat} {x1 x2 x3 : Int32} {M : am_M} {Q : Option Value → am_H → Prop} : am_Wp (d + 1) 129 12 [.ref 16, .int x1, .int x2, .int x3, .retAddr 0] [] (hp nS M) Q = am_Wp d 38 0 [.ref 113, .ref 18] [] (hp nS M) (fun v h1 => am_Wp (d + 1) 129 30 [.ref 16, .int x1, .int x2, .int x3, .ref 18] (am_ans v []) h1 Q) := by
  refine (eq_run 7 (q := (27, [.ref 16, .int x1, .int x2, .int x3, .ref 18], [.ref 18, .ref 113], hp nS M)) (by with_unfolding_all rfl)).trans ?_
  exact eq_call2 (e := (.invokevirtual 95, 3, 0, 38, 11)) (as := [.ref 113, .ref 18]) (r := []) (n := 2) (m := 2) (by with_unfolding_all rfl) rfl (by decide) (by with_unfolding_all rfl) (by decide) (by with_unfolding_all rfl) ⟨fun _ => am_rec_ok (c := 7) (by with_unfolding_all rfl) (by decide +kernel), fun z => by simp at z⟩
set_option maxRecDepth 20000 in
theorem b_129_30 {d nS : Nat} {x1 x2 x3 : Int32} {M : am_M} {Q : Option Value → am_H → Prop} : am_Wp d 129 30 [.ref 16, .int x1, .int x2, .int x3, .ref 18] [] (hp nS M) Q = if ¬ x1 = 0 then am_Wp d 129 50 [.ref 16, .int x1, .int x2, .int x3, .ref 18] [] (hp nS M) Q else am_Wp d 129 34 [.ref 16, .int x1, .int x2, .int x3, .ref 18] [] (hp nS M) Q := by
  refine (eq_run 1 (q := (31, [.ref 16, .int x1, .int x2, .int x3, .ref 18], [.int x1], hp nS M)) (by with_unfolding_all rfl)).trans ?_
  exact eq_if_ne (by with_unfolding_all rfl)
set_option maxRecDepth 20000 in
theorem b_129_34 {d nS : Nat} {x1 x2 x3 : Int32} {M : am_M} {Q : Option Value → am_H → Prop} : am_Wp (d + 1) 129 34 [.ref 16, .int x1, .int x2, .int x3, .ref 18] [] (hp nS M) Q = am_Wp d 92 0 [.ref 17, .ref 18, .int x2, .int x3, .int 1, .int 1, .retAddr 0] [] (hp nS M) (fun v h1 => am_Wp (d + 1) 129 47 [.ref 16, .int x1, .int x2, .int x3, .ref 18] (am_ans v []) h1 Q) := by
  refine (eq_run 7 (q := (44, [.ref 16, .int x1, .int x2, .int x3, .ref 18], [.int 1, .int 1, .int x3, .int x2, .ref 18, .ref 17], hp nS M)) (by with_unfolding_all rfl)).trans ?_
  exact eq_call2 (e := (.invokevirtual 99, 3, 0, 92, 12)) (as := [.ref 17, .ref 18, .int x2, .int x3, .int 1, .int 1]) (r := []) (n := 6) (m := 7) (by with_unfolding_all rfl) rfl (by decide) (by with_unfolding_all rfl) (by decide) (by with_unfolding_all rfl) ⟨fun _ => am_rec_ok (c := 11) (by with_unfolding_all rfl) (by decide +kernel), fun z => by simp at z⟩
set_option maxRecDepth 20000 in
theorem b_129_47 {d nS : Nat} {x1 x2 x3 : Int32} {M : am_M} {Q : Option Value → am_H → Prop} : am_Wp d 129 47 [.ref 16, .int x1, .int x2, .int x3, .ref 18] [] (hp nS M) Q = am_Wp d 129 96 [.ref 16, .int x1, .int x2, .int x3, .ref 18] [] (hp nS M) Q := by
  exact eq_run 1 (q := (96, [.ref 16, .int x1, .int x2, .int x3, .ref 18], [], hp nS M)) (by with_unfolding_all rfl)
set_option maxRecDepth 20000 in
theorem b_129_50 {d nS : Nat} {x1 x2 x3 : Int32} {M : am_M} {Q : Option Value → am_H → Prop} : am_Wp d 129 50 [.ref 16, .int x1, .int x2, .int x3, .ref 18] [] (hp nS M) Q = if ¬ x1 = 1 then am_Wp d 129 71 [.ref 16, .int x1, .int x2, .int x3, .ref 18] [] (hp nS M) Q else am_Wp d 129 55 [.ref 16, .int x1, .int x2, .int x3, .ref 18] [] (hp nS M) Q := by
  refine (eq_run 2 (q := (52, [.ref 16, .int x1, .int x2, .int x3, .ref 18], [.int 1, .int x1], hp nS M)) (by with_unfolding_all rfl)).trans ?_
  exact eq_cmp_ne (by with_unfolding_all rfl)
set_option maxRecDepth 20000 in
theorem b_129_55 {d nS : Nat} {x1 x2 x3 : Int32} {M : am_M} {Q : Option Value → am_H → Prop} : am_Wp (d + 1) 129 55 [.ref 16, .int x1, .int x2, .int x3, .ref 18] [] (hp nS M) Q = am_Wp d 94 0 [.ref 17, .ref 18, .int x2, .int x3, .int 1, .int 1, .retAddr 0] [] (hp nS M) (fun v h1 => am_Wp (d + 1) 129 68 [.ref 16, .int x1, .int x2, .int x3, .ref 18] (am_ans v []) h1 Q) := by
  refine (eq_run 7 (q := (65, [.ref 16, .int x1, .int x2, .int x3, .ref 18], [.int 1, .int 1, .int x3, .int x2, .ref 18, .ref 17], hp nS M)) (by with_unfolding_all rfl)).trans ?_
  exact eq_call2 (e := (.invokevirtual 103, 3, 0, 94, 13)) (as := [.ref 17, .ref 18, .int x2, .int x3, .int 1, .int 1]) (r := []) (n := 6) (m := 7) (by with_unfolding_all rfl) rfl (by decide) (by with_unfolding_all rfl) (by decide) (by with_unfolding_all rfl) ⟨fun _ => am_rec_ok (c := 11) (by with_unfolding_all rfl) (by decide +kernel), fun z => by simp at z⟩
set_option maxRecDepth 20000 in
theorem b_129_68 {d nS : Nat} {x1 x2 x3 : Int32} {M : am_M} {Q : Option Value → am_H → Prop} : am_Wp d 129 68 [.ref 16, .int x1, .int x2, .int x3, .ref 18] [] (hp nS M) Q = am_Wp d 129 96 [.ref 16, .int x1, .int x2, .int x3, .ref 18] [] (hp nS M) Q := by
  exact eq_run 1 (q := (96, [.ref 16, .int x1, .int x2, .int x3, .ref 18], [], hp nS M)) (by with_unfolding_all rfl)
set_option maxRecDepth 20000 in
theorem b_129_71 {d nS : Nat} {x1 x2 x3 : Int32} {M : am_M} {Q : Option Value → am_H → Prop} : am_Wp d 129 71 [.ref 16, .int x1, .int x2, .int x3, .ref 18] [] (hp nS M) Q = if ¬ x1 = 2 then am_Wp d 129 90 [.ref 16, .int x1, .int x2, .int x3, .ref 18] [] (hp nS M) Q else am_Wp d 129 76 [.ref 16, .int x1, .int x2, .int x3, .ref 18] [] (hp nS M) Q := by
  refine (eq_run 2 (q := (73, [.ref 16, .int x1, .int x2, .int x3, .ref 18], [.int 2, .int x1], hp nS M)) (by with_unfolding_all rfl)).trans ?_
  exact eq_cmp_ne (by with_unfolding_all rfl)
set_option maxRecDepth 20000 in
theorem b_129_76 {d nS : Nat} {x1 x2 x3 : Int32} {M : am_M} {Q : Option Value → am_H → Prop} (h1 : vp_in x2 6) (h2 : vp_in x2 6) : am_Wp d 129 76 [.ref 16, .int x1, .int x2, .int x3, .ref 18] [] (hp nS M) Q = am_Wp d 129 96 [.ref 16, .int x1, .int x2, .int x3, .ref 18] [] (hp nS (am_up M 23 x2.toNatClampNeg ((M 23 x2.toNatClampNeg) + 1))) Q := by
  refine (eq_run 4 (q := (83, [.ref 16, .int x1, .int x2, .int x3, .ref 18], [.int x2, .ref 23, .int x2, .ref 23], hp nS M)) (by with_unfolding_all rfl)).trans ?_
  refine (eq_ald (e := (.iaload, 1, 0, 0, 0)) (by with_unfolding_all rfl) rfl (n := 6) (by with_unfolding_all rfl) h1).trans ?_
  refine (eq_run 2 (q := (86, [.ref 16, .int x1, .int x2, .int x3, .ref 18], [.int ((M 23 x2.toNatClampNeg) + 1), .int x2, .ref 23], hp nS M)) (by with_unfolding_all rfl)).trans ?_
  refine (eq_ast (e := (.iastore, 1, 0, 0, 0)) (by with_unfolding_all rfl) rfl (n := 6) (by with_unfolding_all rfl) (by decide) h2).trans ?_
  exact eq_run 1 (q := (96, [.ref 16, .int x1, .int x2, .int x3, .ref 18], [], hp nS (am_up M 23 x2.toNatClampNeg ((M 23 x2.toNatClampNeg) + 1)))) (by with_unfolding_all rfl)
set_option maxRecDepth 20000 in
theorem b_129_90 {d nS : Nat} {x1 x2 x3 : Int32} {M : am_M} {Q : Option Value → am_H → Prop} : am_Wp (d + 1) 129 90 [.ref 16, .int x1, .int x2, .int x3, .ref 18] [] (hp nS M) Q = am_Wp d 113 0 [.ref 18, .int x2] [] (hp nS M) (fun v h1 => am_Wp (d + 1) 129 96 [.ref 16, .int x1, .int x2, .int x3, .ref 18] (am_ans v []) h1 Q) := by
  refine (eq_run 2 (q := (93, [.ref 16, .int x1, .int x2, .int x3, .ref 18], [.int x2, .ref 18], hp nS M)) (by with_unfolding_all rfl)).trans ?_
  exact eq_call2 (e := (.invokevirtual 109, 3, 0, 113, 14)) (as := [.ref 18, .int x2]) (r := []) (n := 2) (m := 2) (by with_unfolding_all rfl) rfl (by decide) (by with_unfolding_all rfl) (by decide) (by with_unfolding_all rfl) ⟨fun _ => am_rec_ok (c := 12) (by with_unfolding_all rfl) (by decide +kernel), fun z => by simp at z⟩
set_option maxRecDepth 20000 in
theorem b_129_96 {d nS : Nat} {x1 x2 x3 : Int32} {M : am_M} {Q : Option Value → am_H → Prop} : am_Wp d 129 96 [.ref 16, .int x1, .int x2, .int x3, .ref 18] [] (hp nS M) Q = Q (some (.int 1)) (hp nS M) := by
  refine (eq_run 1 (q := (97, [.ref 16, .int x1, .int x2, .int x3, .ref 18], [.int 1], hp nS M)) (by with_unfolding_all rfl)).trans ?_
  exact eq_retI2 (e := (.ireturn, 1, 0, 0, 0)) (t := .boolean) (by with_unfolding_all rfl) rfl (by with_unfolding_all rfl) rfl
-- LarkExchange canAct(III)Z (130, (16, None, None, None))
set_option maxRecDepth 20000 in
theorem b_130_0 {d nS : Nat} {x1 x2 x3 : Int32} {M : am_M} {Q : Option Value → am_H → Prop} : am_Wp d 130 0 [.ref 16, .int x1, .int x2, .int x3, .retAddr 0] [] (hp nS M) Q = if ¬ x1 = 0 then am_Wp d 130 40 [.ref 16, .int x1, .int x2, .int x3, .ref 18] [] (hp nS M) Q else am_Wp d 130 13 [.ref 16, .int x1, .int x2, .int x3, .ref 18] [] (hp nS M) Q := by
  refine (eq_run 5 (q := (10, [.ref 16, .int x1, .int x2, .int x3, .ref 18], [.int x1], hp nS M)) (by with_unfolding_all rfl)).trans ?_
  exact eq_if_ne (by with_unfolding_all rfl)
set_option maxRecDepth 20000 in
theorem b_130_13 {d nS : Nat} {x1 x2 x3 : Int32} {M : am_M} {Q : Option Value → am_H → Prop} : am_Wp (d + 1) 130 13 [.ref 16, .int x1, .int x2, .int x3, .ref 18] [] (hp nS M) Q = am_Wp d 108 0 [.ref 18, .int x2, .int x3] [] (hp nS M) (fun v h1 => am_Wp (d + 1) 130 20 [.ref 16, .int x1, .int x2, .int x3, .ref 18] (am_ans v []) h1 Q) := by
  refine (eq_run 3 (q := (17, [.ref 16, .int x1, .int x2, .int x3, .ref 18], [.int x3, .int x2, .ref 18], hp nS M)) (by with_unfolding_all rfl)).trans ?_
  exact eq_call2 (e := (.invokevirtual 113, 3, 0, 108, 15)) (as := [.ref 18, .int x2, .int x3]) (r := []) (n := 3) (m := 3) (by with_unfolding_all rfl) rfl (by decide) (by with_unfolding_all rfl) (by decide) (by with_unfolding_all rfl) ⟨fun _ => am_rec_ok (c := 12) (by with_unfolding_all rfl) (by decide +kernel), fun z => by simp at z⟩
set_option maxRecDepth 20000 in
theorem b_130_20 {d nS : Nat} {x1 x2 x3 s0 : Int32} {M : am_M} {Q : Option Value → am_H → Prop} : am_Wp d 130 20 [.ref 16, .int x1, .int x2, .int x3, .ref 18] [.int s0] (hp nS M) Q = if s0 = 0 then am_Wp d 130 38 [.ref 16, .int x1, .int x2, .int x3, .ref 18] [] (hp nS M) Q else am_Wp d 130 23 [.ref 16, .int x1, .int x2, .int x3, .ref 18] [] (hp nS M) Q := by
  exact eq_if_eq (by with_unfolding_all rfl)
set_option maxRecDepth 20000 in
theorem b_130_23 {d nS : Nat} {x1 x2 x3 : Int32} {M : am_M} {Q : Option Value → am_H → Prop} : am_Wp (d + 1) 130 23 [.ref 16, .int x1, .int x2, .int x3, .ref 18] [] (hp nS M) Q = am_Wp d 109 0 [.ref 18, .int x2, .int x3, .retAddr 0] [] (hp nS M) (fun v h1 => am_Wp (d + 1) 130 30 [.ref 16, .int x1, .int x2, .int x3, .ref 18] (am_ans v []) h1 Q) := by
  refine (eq_run 3 (q := (27, [.ref 16, .int x1, .int x2, .int x3, .ref 18], [.int x3, .int x2, .ref 18], hp nS M)) (by with_unfolding_all rfl)).trans ?_
  exact eq_call2 (e := (.invokevirtual 117, 3, 0, 109, 16)) (as := [.ref 18, .int x2, .int x3]) (r := []) (n := 3) (m := 4) (by with_unfolding_all rfl) rfl (by decide) (by with_unfolding_all rfl) (by decide) (by with_unfolding_all rfl) ⟨fun _ => am_rec_ok (c := 12) (by with_unfolding_all rfl) (by decide +kernel), fun z => by simp at z⟩
set_option maxRecDepth 20000 in
theorem b_130_30 {d nS : Nat} {x1 x2 x3 s0 : Int32} {M : am_M} {Q : Option Value → am_H → Prop} : am_Wp d 130 30 [.ref 16, .int x1, .int x2, .int x3, .ref 18] [.int s0] (hp nS M) Q = if s0 < 1 then am_Wp d 130 38 [.ref 16, .int x1, .int x2, .int x3, .ref 18] [] (hp nS M) Q else am_Wp d 130 34 [.ref 16, .int x1, .int x2, .int x3, .ref 18] [] (hp nS M) Q := by
  refine (eq_run 1 (q := (31, [.ref 16, .int x1, .int x2, .int x3, .ref 18], [.int 1, .int s0], hp nS M)) (by with_unfolding_all rfl)).trans ?_
  exact eq_cmp_lt (by with_unfolding_all rfl)
set_option maxRecDepth 20000 in
theorem b_130_34 {d nS : Nat} {x1 x2 x3 : Int32} {M : am_M} {Q : Option Value → am_H → Prop} : am_Wp d 130 34 [.ref 16, .int x1, .int x2, .int x3, .ref 18] [] (hp nS M) Q = am_Wp d 130 39 [.ref 16, .int x1, .int x2, .int x3, .ref 18] [.int 1] (hp nS M) Q := by
  exact eq_run 2 (q := (39, [.ref 16, .int x1, .int x2, .int x3, .ref 18], [.int 1], hp nS M)) (by with_unfolding_all rfl)
set_option maxRecDepth 20000 in
theorem b_130_38 {d nS : Nat} {x1 x2 x3 : Int32} {M : am_M} {Q : Option Value → am_H → Prop} : am_Wp d 130 38 [.ref 16, .int x1, .int x2, .int x3, .ref 18] [] (hp nS M) Q = am_Wp d 130 39 [.ref 16, .int x1, .int x2, .int x3, .ref 18] [.int 0] (hp nS M) Q := by
  exact eq_run 1 (q := (39, [.ref 16, .int x1, .int x2, .int x3, .ref 18], [.int 0], hp nS M)) (by with_unfolding_all rfl)
set_option maxRecDepth 20000 in
theorem b_130_39 {d nS : Nat} {x1 x2 x3 s0 : Int32} {M : am_M} {Q : Option Value → am_H → Prop} (h1 : am_rok .boolean s0 = true) : am_Wp d 130 39 [.ref 16, .int x1, .int x2, .int x3, .ref 18] [.int s0] (hp nS M) Q = Q (some (.int s0)) (hp nS M) := by
  exact eq_retI2 (e := (.ireturn, 1, 0, 0, 0)) (t := .boolean) (by with_unfolding_all rfl) rfl (by with_unfolding_all rfl) h1
set_option maxRecDepth 20000 in
theorem b_130_40 {d nS : Nat} {x1 x2 x3 : Int32} {M : am_M} {Q : Option Value → am_H → Prop} : am_Wp d 130 40 [.ref 16, .int x1, .int x2, .int x3, .ref 18] [] (hp nS M) Q = if ¬ x1 = 1 then am_Wp d 130 72 [.ref 16, .int x1, .int x2, .int x3, .ref 18] [] (hp nS M) Q else am_Wp d 130 45 [.ref 16, .int x1, .int x2, .int x3, .ref 18] [] (hp nS M) Q := by
  refine (eq_run 2 (q := (42, [.ref 16, .int x1, .int x2, .int x3, .ref 18], [.int 1, .int x1], hp nS M)) (by with_unfolding_all rfl)).trans ?_
  exact eq_cmp_ne (by with_unfolding_all rfl)
set_option maxRecDepth 20000 in
theorem b_130_45 {d nS : Nat} {x1 x2 x3 : Int32} {M : am_M} {Q : Option Value → am_H → Prop} : am_Wp (d + 1) 130 45 [.ref 16, .int x1, .int x2, .int x3, .ref 18] [] (hp nS M) Q = am_Wp d 108 0 [.ref 18, .int x2, .int x3] [] (hp nS M) (fun v h1 => am_Wp (d + 1) 130 52 [.ref 16, .int x1, .int x2, .int x3, .ref 18] (am_ans v []) h1 Q) := by
  refine (eq_run 3 (q := (49, [.ref 16, .int x1, .int x2, .int x3, .ref 18], [.int x3, .int x2, .ref 18], hp nS M)) (by with_unfolding_all rfl)).trans ?_
  exact eq_call2 (e := (.invokevirtual 113, 3, 0, 108, 15)) (as := [.ref 18, .int x2, .int x3]) (r := []) (n := 3) (m := 3) (by with_unfolding_all rfl) rfl (by decide) (by with_unfolding_all rfl) (by decide) (by with_unfolding_all rfl) ⟨fun _ => am_rec_ok (c := 12) (by with_unfolding_all rfl) (by decide +kernel), fun z => by simp at z⟩
set_option maxRecDepth 20000 in
theorem b_130_52 {d nS : Nat} {x1 x2 x3 s0 : Int32} {M : am_M} {Q : Option Value → am_H → Prop} : am_Wp d 130 52 [.ref 16, .int x1, .int x2, .int x3, .ref 18] [.int s0] (hp nS M) Q = if s0 = 0 then am_Wp d 130 70 [.ref 16, .int x1, .int x2, .int x3, .ref 18] [] (hp nS M) Q else am_Wp d 130 55 [.ref 16, .int x1, .int x2, .int x3, .ref 18] [] (hp nS M) Q := by
  exact eq_if_eq (by with_unfolding_all rfl)
set_option maxRecDepth 20000 in
theorem b_130_55 {d nS : Nat} {x1 x2 x3 : Int32} {M : am_M} {Q : Option Value → am_H → Prop} : am_Wp (d + 1) 130 55 [.ref 16, .int x1, .int x2, .int x3, .ref 18] [] (hp nS M) Q = am_Wp d 110 0 [.ref 18, .int x2, .int x3] [] (hp nS M) (fun v h1 => am_Wp (d + 1) 130 62 [.ref 16, .int x1, .int x2, .int x3, .ref 18] (am_ans v []) h1 Q) := by
  refine (eq_run 3 (q := (59, [.ref 16, .int x1, .int x2, .int x3, .ref 18], [.int x3, .int x2, .ref 18], hp nS M)) (by with_unfolding_all rfl)).trans ?_
  exact eq_call2 (e := (.invokevirtual 121, 3, 0, 110, 17)) (as := [.ref 18, .int x2, .int x3]) (r := []) (n := 3) (m := 3) (by with_unfolding_all rfl) rfl (by decide) (by with_unfolding_all rfl) (by decide) (by with_unfolding_all rfl) ⟨fun _ => am_rec_ok (c := 12) (by with_unfolding_all rfl) (by decide +kernel), fun z => by simp at z⟩
set_option maxRecDepth 20000 in
theorem b_130_62 {d nS : Nat} {x1 x2 x3 s0 : Int32} {M : am_M} {Q : Option Value → am_H → Prop} : am_Wp d 130 62 [.ref 16, .int x1, .int x2, .int x3, .ref 18] [.int s0] (hp nS M) Q = if s0 < 1 then am_Wp d 130 70 [.ref 16, .int x1, .int x2, .int x3, .ref 18] [] (hp nS M) Q else am_Wp d 130 66 [.ref 16, .int x1, .int x2, .int x3, .ref 18] [] (hp nS M) Q := by
  refine (eq_run 1 (q := (63, [.ref 16, .int x1, .int x2, .int x3, .ref 18], [.int 1, .int s0], hp nS M)) (by with_unfolding_all rfl)).trans ?_
  exact eq_cmp_lt (by with_unfolding_all rfl)
set_option maxRecDepth 20000 in
theorem b_130_66 {d nS : Nat} {x1 x2 x3 : Int32} {M : am_M} {Q : Option Value → am_H → Prop} : am_Wp d 130 66 [.ref 16, .int x1, .int x2, .int x3, .ref 18] [] (hp nS M) Q = am_Wp d 130 71 [.ref 16, .int x1, .int x2, .int x3, .ref 18] [.int 1] (hp nS M) Q := by
  exact eq_run 2 (q := (71, [.ref 16, .int x1, .int x2, .int x3, .ref 18], [.int 1], hp nS M)) (by with_unfolding_all rfl)
set_option maxRecDepth 20000 in
theorem b_130_70 {d nS : Nat} {x1 x2 x3 : Int32} {M : am_M} {Q : Option Value → am_H → Prop} : am_Wp d 130 70 [.ref 16, .int x1, .int x2, .int x3, .ref 18] [] (hp nS M) Q = am_Wp d 130 71 [.ref 16, .int x1, .int x2, .int x3, .ref 18] [.int 0] (hp nS M) Q := by
  exact eq_run 1 (q := (71, [.ref 16, .int x1, .int x2, .int x3, .ref 18], [.int 0], hp nS M)) (by with_unfolding_all rfl)
set_option maxRecDepth 20000 in
theorem b_130_71 {d nS : Nat} {x1 x2 x3 s0 : Int32} {M : am_M} {Q : Option Value → am_H → Prop} (h1 : am_rok .boolean s0 = true) : am_Wp d 130 71 [.ref 16, .int x1, .int x2, .int x3, .ref 18] [.int s0] (hp nS M) Q = Q (some (.int s0)) (hp nS M) := by
  exact eq_retI2 (e := (.ireturn, 1, 0, 0, 0)) (t := .boolean) (by with_unfolding_all rfl) rfl (by with_unfolding_all rfl) h1
set_option maxRecDepth 20000 in
theorem b_130_72 {d nS : Nat} {x1 x2 x3 : Int32} {M : am_M} {Q : Option Value → am_H → Prop} : am_Wp d 130 72 [.ref 16, .int x1, .int x2, .int x3, .ref 18] [] (hp nS M) Q = if ¬ x1 = 2 then am_Wp d 130 104 [.ref 16, .int x1, .int x2, .int x3, .ref 18] [] (hp nS M) Q else am_Wp d 130 77 [.ref 16, .int x1, .int x2, .int x3, .ref 18] [] (hp nS M) Q := by
  refine (eq_run 2 (q := (74, [.ref 16, .int x1, .int x2, .int x3, .ref 18], [.int 2, .int x1], hp nS M)) (by with_unfolding_all rfl)).trans ?_
  exact eq_cmp_ne (by with_unfolding_all rfl)
set_option maxRecDepth 20000 in
theorem b_130_77 {d nS : Nat} {x1 x2 x3 : Int32} {M : am_M} {Q : Option Value → am_H → Prop} : am_Wp (d + 1) 130 77 [.ref 16, .int x1, .int x2, .int x3, .ref 18] [] (hp nS M) Q = am_Wp d 104 0 [.ref 18, .int x2] [] (hp nS M) (fun v h1 => am_Wp (d + 1) 130 83 [.ref 16, .int x1, .int x2, .int x3, .ref 18] (am_ans v []) h1 Q) := by
  refine (eq_run 2 (q := (80, [.ref 16, .int x1, .int x2, .int x3, .ref 18], [.int x2, .ref 18], hp nS M)) (by with_unfolding_all rfl)).trans ?_
  exact eq_call2 (e := (.invokevirtual 124, 3, 0, 104, 18)) (as := [.ref 18, .int x2]) (r := []) (n := 2) (m := 2) (by with_unfolding_all rfl) rfl (by decide) (by with_unfolding_all rfl) (by decide) (by with_unfolding_all rfl) ⟨fun _ => am_rec_ok (c := 12) (by with_unfolding_all rfl) (by decide +kernel), fun z => by simp at z⟩
set_option maxRecDepth 20000 in
theorem b_130_83 {d nS : Nat} {x1 x2 x3 s0 : Int32} {M : am_M} {Q : Option Value → am_H → Prop} : am_Wp d 130 83 [.ref 16, .int x1, .int x2, .int x3, .ref 18] [.int s0] (hp nS M) Q = if s0 = 0 then am_Wp d 130 102 [.ref 16, .int x1, .int x2, .int x3, .ref 18] [] (hp nS M) Q else am_Wp d 130 86 [.ref 16, .int x1, .int x2, .int x3, .ref 18] [] (hp nS M) Q := by
  exact eq_if_eq (by with_unfolding_all rfl)
set_option maxRecDepth 20000 in
theorem b_130_86 {d nS : Nat} {x1 x2 x3 : Int32} {M : am_M} {Q : Option Value → am_H → Prop} (h1 : vp_in x2 6) : am_Wp d 130 86 [.ref 16, .int x1, .int x2, .int x3, .ref 18] [] (hp nS M) Q = if 9 ≤ (M 23 x2.toNatClampNeg) then am_Wp d 130 102 [.ref 16, .int x1, .int x2, .int x3, .ref 18] [] (hp nS M) Q else am_Wp d 130 98 [.ref 16, .int x1, .int x2, .int x3, .ref 18] [] (hp nS M) Q := by
  refine (eq_run 3 (q := (92, [.ref 16, .int x1, .int x2, .int x3, .ref 18], [.int x2, .ref 23], hp nS M)) (by with_unfolding_all rfl)).trans ?_
  refine (eq_ald (e := (.iaload, 1, 0, 0, 0)) (by with_unfolding_all rfl) rfl (n := 6) (by with_unfolding_all rfl) h1).trans ?_
  refine (eq_run 1 (q := (95, [.ref 16, .int x1, .int x2, .int x3, .ref 18], [.int 9, .int (M 23 x2.toNatClampNeg)], hp nS M)) (by with_unfolding_all rfl)).trans ?_
  exact eq_cmp_ge (by with_unfolding_all rfl)
set_option maxRecDepth 20000 in
theorem b_130_98 {d nS : Nat} {x1 x2 x3 : Int32} {M : am_M} {Q : Option Value → am_H → Prop} : am_Wp d 130 98 [.ref 16, .int x1, .int x2, .int x3, .ref 18] [] (hp nS M) Q = am_Wp d 130 103 [.ref 16, .int x1, .int x2, .int x3, .ref 18] [.int 1] (hp nS M) Q := by
  exact eq_run 2 (q := (103, [.ref 16, .int x1, .int x2, .int x3, .ref 18], [.int 1], hp nS M)) (by with_unfolding_all rfl)
set_option maxRecDepth 20000 in
theorem b_130_102 {d nS : Nat} {x1 x2 x3 : Int32} {M : am_M} {Q : Option Value → am_H → Prop} : am_Wp d 130 102 [.ref 16, .int x1, .int x2, .int x3, .ref 18] [] (hp nS M) Q = am_Wp d 130 103 [.ref 16, .int x1, .int x2, .int x3, .ref 18] [.int 0] (hp nS M) Q := by
  exact eq_run 1 (q := (103, [.ref 16, .int x1, .int x2, .int x3, .ref 18], [.int 0], hp nS M)) (by with_unfolding_all rfl)
set_option maxRecDepth 20000 in
theorem b_130_103 {d nS : Nat} {x1 x2 x3 s0 : Int32} {M : am_M} {Q : Option Value → am_H → Prop} (h1 : am_rok .boolean s0 = true) : am_Wp d 130 103 [.ref 16, .int x1, .int x2, .int x3, .ref 18] [.int s0] (hp nS M) Q = Q (some (.int s0)) (hp nS M) := by
  exact eq_retI2 (e := (.ireturn, 1, 0, 0, 0)) (t := .boolean) (by with_unfolding_all rfl) rfl (by with_unfolding_all rfl) h1
set_option maxRecDepth 20000 in
theorem b_130_104 {d nS : Nat} {x1 x2 x3 : Int32} {M : am_M} {Q : Option Value → am_H → Prop} : am_Wp d 130 104 [.ref 16, .int x1, .int x2, .int x3, .ref 18] [] (hp nS M) Q = if ¬ x1 = 3 then am_Wp d 130 133 [.ref 16, .int x1, .int x2, .int x3, .ref 18] [] (hp nS M) Q else am_Wp d 130 109 [.ref 16, .int x1, .int x2, .int x3, .ref 18] [] (hp nS M) Q := by
  refine (eq_run 2 (q := (106, [.ref 16, .int x1, .int x2, .int x3, .ref 18], [.int 3, .int x1], hp nS M)) (by with_unfolding_all rfl)).trans ?_
  exact eq_cmp_ne (by with_unfolding_all rfl)
set_option maxRecDepth 20000 in
theorem b_130_109 {d nS : Nat} {x1 x2 x3 : Int32} {M : am_M} {Q : Option Value → am_H → Prop} : am_Wp (d + 1) 130 109 [.ref 16, .int x1, .int x2, .int x3, .ref 18] [] (hp nS M) Q = am_Wp d 104 0 [.ref 18, .int x2] [] (hp nS M) (fun v h1 => am_Wp (d + 1) 130 115 [.ref 16, .int x1, .int x2, .int x3, .ref 18] (am_ans v []) h1 Q) := by
  refine (eq_run 2 (q := (112, [.ref 16, .int x1, .int x2, .int x3, .ref 18], [.int x2, .ref 18], hp nS M)) (by with_unfolding_all rfl)).trans ?_
  exact eq_call2 (e := (.invokevirtual 124, 3, 0, 104, 18)) (as := [.ref 18, .int x2]) (r := []) (n := 2) (m := 2) (by with_unfolding_all rfl) rfl (by decide) (by with_unfolding_all rfl) (by decide) (by with_unfolding_all rfl) ⟨fun _ => am_rec_ok (c := 12) (by with_unfolding_all rfl) (by decide +kernel), fun z => by simp at z⟩
set_option maxRecDepth 20000 in
theorem b_130_115 {d nS : Nat} {x1 x2 x3 s0 : Int32} {M : am_M} {Q : Option Value → am_H → Prop} : am_Wp d 130 115 [.ref 16, .int x1, .int x2, .int x3, .ref 18] [.int s0] (hp nS M) Q = if s0 = 0 then am_Wp d 130 133 [.ref 16, .int x1, .int x2, .int x3, .ref 18] [] (hp nS M) Q else am_Wp d 130 118 [.ref 16, .int x1, .int x2, .int x3, .ref 18] [] (hp nS M) Q := by
  exact eq_if_eq (by with_unfolding_all rfl)
set_option maxRecDepth 20000 in
theorem b_130_118 {d nS : Nat} {x1 x2 x3 : Int32} {M : am_M} {Q : Option Value → am_H → Prop} (h1 : vp_in x2 6) : am_Wp d 130 118 [.ref 16, .int x1, .int x2, .int x3, .ref 18] [] (hp nS M) Q = if ¬ (M 22 x2.toNatClampNeg) = 1 then am_Wp d 130 133 [.ref 16, .int x1, .int x2, .int x3, .ref 18] [] (hp nS M) Q else am_Wp d 130 129 [.ref 16, .int x1, .int x2, .int x3, .ref 18] [] (hp nS M) Q := by
  refine (eq_run 3 (q := (124, [.ref 16, .int x1, .int x2, .int x3, .ref 18], [.int x2, .ref 22], hp nS M)) (by with_unfolding_all rfl)).trans ?_
  refine (eq_ald (e := (.iaload, 1, 0, 0, 0)) (by with_unfolding_all rfl) rfl (n := 6) (by with_unfolding_all rfl) h1).trans ?_
  refine (eq_run 1 (q := (126, [.ref 16, .int x1, .int x2, .int x3, .ref 18], [.int 1, .int (M 22 x2.toNatClampNeg)], hp nS M)) (by with_unfolding_all rfl)).trans ?_
  exact eq_cmp_ne (by with_unfolding_all rfl)
set_option maxRecDepth 20000 in
theorem b_130_129 {d nS : Nat} {x1 x2 x3 : Int32} {M : am_M} {Q : Option Value → am_H → Prop} : am_Wp d 130 129 [.ref 16, .int x1, .int x2, .int x3, .ref 18] [] (hp nS M) Q = am_Wp d 130 134 [.ref 16, .int x1, .int x2, .int x3, .ref 18] [.int 1] (hp nS M) Q := by
  exact eq_run 2 (q := (134, [.ref 16, .int x1, .int x2, .int x3, .ref 18], [.int 1], hp nS M)) (by with_unfolding_all rfl)
set_option maxRecDepth 20000 in
theorem b_130_133 {d nS : Nat} {x1 x2 x3 : Int32} {M : am_M} {Q : Option Value → am_H → Prop} : am_Wp d 130 133 [.ref 16, .int x1, .int x2, .int x3, .ref 18] [] (hp nS M) Q = am_Wp d 130 134 [.ref 16, .int x1, .int x2, .int x3, .ref 18] [.int 0] (hp nS M) Q := by
  exact eq_run 1 (q := (134, [.ref 16, .int x1, .int x2, .int x3, .ref 18], [.int 0], hp nS M)) (by with_unfolding_all rfl)
set_option maxRecDepth 20000 in
theorem b_130_134 {d nS : Nat} {x1 x2 x3 s0 : Int32} {M : am_M} {Q : Option Value → am_H → Prop} (h1 : am_rok .boolean s0 = true) : am_Wp d 130 134 [.ref 16, .int x1, .int x2, .int x3, .ref 18] [.int s0] (hp nS M) Q = Q (some (.int s0)) (hp nS M) := by
  exact eq_retI2 (e := (.ireturn, 1, 0, 0, 0)) (t := .boolean) (by with_unfolding_all rfl) rfl (by with_unfolding_all rfl) h1
-- LarkExchange days(I)I (132, (16, None))
set_option maxRecDepth 20000 in
theorem b_132_0 {d nS : Nat} {x1 : Int32} {M : am_M} {Q : Option Value → am_H → Prop} : am_Wp (d + 1) 132 0 [.ref 16, .int x1, .retAddr 0, .retAddr 0, .retAddr 0] [] (hp nS M) Q = am_Wp d 125 0 [.int x1, .int 1, .int 60] [] (hp nS M) (fun v h1 => am_Wp (d + 1) 132 15 [.ref 16, .int x1, .ref 18, .retAddr 0, .retAddr 0] (am_ans v []) h1 Q) := by
  refine (eq_run 7 (q := (12, [.ref 16, .int x1, .ref 18, .retAddr 0, .retAddr 0], [.int 60, .int 1, .int x1], hp nS M)) (by with_unfolding_all rfl)).trans ?_
  exact eq_call2 (e := (.invokestatic 57, 3, 1, 125, 7)) (as := [.int x1, .int 1, .int 60]) (r := []) (n := 3) (m := 3) (by with_unfolding_all rfl) rfl (by decide) (by with_unfolding_all rfl) (by decide) (by with_unfolding_all rfl) ⟨fun z => absurd z (by decide), fun z => by simp at z⟩
set_option maxRecDepth 20000 in
theorem b_132_15 {d nS : Nat} {x1 s0 : Int32} {M : am_M} {Q : Option Value → am_H → Prop} : am_Wp d 132 15 [.ref 16, .int x1, .ref 18, .retAddr 0, .retAddr 0] [.int s0] (hp nS M) Q = if ¬ s0 = 0 then am_Wp d 132 30 [.ref 16, .int x1, .ref 18, .retAddr 0, .retAddr 0] [] (hp nS M) Q else am_Wp d 132 18 [.ref 16, .int x1, .ref 18, .retAddr 0, .retAddr 0] [] (hp nS M) Q := by
  exact eq_if_ne (by with_unfolding_all rfl)
set_option maxRecDepth 20000 in
theorem b_132_18 {d nS : Nat} {x1 : Int32} {M : am_M} {Q : Option Value → am_H → Prop} : am_Wp d 132 18 [.ref 16, .int x1, .ref 18, .retAddr 0, .retAddr 0] [] (hp nS M) Q = if ((M 18 4) + x1) ≤ 9999 then am_Wp d 132 32 [.ref 16, .int x1, .ref 18, .retAddr 0, .retAddr 0] [] (hp nS M) Q else am_Wp d 132 30 [.ref 16, .int x1, .ref 18, .retAddr 0, .retAddr 0] [] (hp nS M) Q := by
  refine (eq_run 5 (q := (27, [.ref 16, .int x1, .ref 18, .retAddr 0, .retAddr 0], [.int 9999, .int ((M 18 4) + x1)], hp nS M)) (by with_unfolding_all rfl)).trans ?_
  exact eq_cmp_le (by with_unfolding_all rfl)
set_option maxRecDepth 20000 in
theorem b_132_30 {d nS : Nat} {x1 : Int32} {M : am_M} {Q : Option Value → am_H → Prop} : am_Wp d 132 30 [.ref 16, .int x1, .ref 18, .retAddr 0, .retAddr 0] [] (hp nS M) Q = Q (some (.int (-1))) (hp nS M) := by
  refine (eq_run 1 (q := (31, [.ref 16, .int x1, .ref 18, .retAddr 0, .retAddr 0], [.int (-1)], hp nS M)) (by with_unfolding_all rfl)).trans ?_
  exact eq_retI2 (e := (.ireturn, 1, 0, 0, 0)) (t := .int) (by with_unfolding_all rfl) rfl (by with_unfolding_all rfl) rfl
set_option maxRecDepth 20000 in
theorem b_132_32 {d nS : Nat} {x1 : Int32} {M : am_M} {Q : Option Value → am_H → Prop} : am_Wp d 132 32 [.ref 16, .int x1, .ref 18, .retAddr 0, .retAddr 0] [] (hp nS M) Q = am_Wp d 132 37 [.ref 16, .int x1, .ref 18, .int 0, .int 0] [] (hp nS M) Q := by
  exact eq_run 4 (q := (37, [.ref 16, .int x1, .ref 18, .int 0, .int 0], [], hp nS M)) (by with_unfolding_all rfl)
set_option maxRecDepth 20000 in
theorem b_132_37 {d nS : Nat} {x1 x3 x4 : Int32} {M : am_M} {Q : Option Value → am_H → Prop} : am_Wp d 132 37 [.ref 16, .int x1, .ref 18, .int x3, .int x4] [] (hp nS M) Q = if x1 ≤ x4 then am_Wp d 132 69 [.ref 16, .int x1, .ref 18, .int x3, .int x4] [] (hp nS M) Q else am_Wp d 132 43 [.ref 16, .int x1, .ref 18, .int x3, .int x4] [] (hp nS M) Q := by
  refine (eq_run 2 (q := (40, [.ref 16, .int x1, .ref 18, .int x3, .int x4], [.int x1, .int x4], hp nS M)) (by with_unfolding_all rfl)).trans ?_
  exact eq_cmp_ge (by with_unfolding_all rfl)
set_option maxRecDepth 20000 in
theorem b_132_43 {d nS : Nat} {x1 x3 x4 : Int32} {M : am_M} {Q : Option Value → am_H → Prop} : am_Wp (d + 1) 132 43 [.ref 16, .int x1, .ref 18, .int x3, .int x4] [] (hp nS M) Q = am_Wp d 38 0 [.ref 113, .ref 18] [] (hp nS M) (fun v h1 => am_Wp (d + 1) 132 51 [.ref 16, .int x1, .ref 18, .int x3, .int x4] (am_ans v []) h1 Q) := by
  refine (eq_run 3 (q := (48, [.ref 16, .int x1, .ref 18, .int x3, .int x4], [.ref 18, .ref 113], hp nS M)) (by with_unfolding_all rfl)).trans ?_
  exact eq_call2 (e := (.invokevirtual 95, 3, 0, 38, 11)) (as := [.ref 113, .ref 18]) (r := []) (n := 2) (m := 2) (by with_unfolding_all rfl) rfl (by decide) (by with_unfolding_all rfl) (by decide) (by with_unfolding_all rfl) ⟨fun _ => am_rec_ok (c := 7) (by with_unfolding_all rfl) (by decide +kernel), fun z => by simp at z⟩
set_option maxRecDepth 20000 in
theorem b_132_51 {d nS : Nat} {x1 x3 x4 : Int32} {M : am_M} {Q : Option Value → am_H → Prop} : am_Wp (d + 1) 132 51 [.ref 16, .int x1, .ref 18, .int x3, .int x4] [] (hp nS M) Q = am_Wp d 95 0 [.ref 17, .ref 18, .int 1, .retAddr 0, .retAddr 0] [] (hp nS M) (fun v h1 => am_Wp (d + 1) 132 61 [.ref 16, .int x1, .ref 18, .int x3, .int x4] (am_ans v [.int x3]) h1 Q) := by
  refine (eq_run 5 (q := (58, [.ref 16, .int x1, .ref 18, .int x3, .int x4], [.int 1, .ref 18, .ref 17, .int x3], hp nS M)) (by with_unfolding_all rfl)).trans ?_
  exact eq_call2 (e := (.invokevirtual 134, 3, 0, 95, 19)) (as := [.ref 17, .ref 18, .int 1]) (r := [.int x3]) (n := 3) (m := 5) (by with_unfolding_all rfl) rfl (by decide) (by with_unfolding_all rfl) (by decide) (by with_unfolding_all rfl) ⟨fun _ => am_rec_ok (c := 11) (by with_unfolding_all rfl) (by decide +kernel), fun z => by simp at z⟩
set_option maxRecDepth 20000 in
theorem b_132_61 {d nS : Nat} {x1 x3 x4 s0 s1 : Int32} {M : am_M} {Q : Option Value → am_H → Prop} : am_Wp d 132 61 [.ref 16, .int x1, .ref 18, .int x3, .int x4] [.int s1, .int s0] (hp nS M) Q = am_Wp d 132 37 [.ref 16, .int x1, .ref 18, .int (s0 + s1), .int (x4 + 1)] [] (hp nS M) Q := by
  exact eq_run 4 (q := (37, [.ref 16, .int x1, .ref 18, .int (s0 + s1), .int (x4 + 1)], [], hp nS M)) (by with_unfolding_all rfl)
set_option maxRecDepth 20000 in
theorem b_132_69 {d nS : Nat} {x1 x3 x4 : Int32} {M : am_M} {Q : Option Value → am_H → Prop} : am_Wp d 132 69 [.ref 16, .int x1, .ref 18, .int x3, .int x4] [] (hp nS M) Q = Q (some (.int x3)) (hp nS M) := by
  refine (eq_run 1 (q := (70, [.ref 16, .int x1, .ref 18, .int x3, .int x4], [.int x3], hp nS M)) (by with_unfolding_all rfl)).trans ?_
  exact eq_retI2 (e := (.ireturn, 1, 0, 0, 0)) (t := .int) (by with_unfolding_all rfl) rfl (by with_unfolding_all rfl) rfl
-- LarkExchange feed(IIIII)I (133, (16, None, None, None, None, None))
set_option maxRecDepth 20000 in
theorem b_133_0 {d nS : Nat} {x1 x2 x3 x4 x5 : Int32} {M : am_M} {Q : Option Value → am_H → Prop} : am_Wp d 133 0 [.ref 16, .int x1, .int x2, .int x3, .int x4, .int x5] [] (hp nS M) Q = if ((M 187 0) + 20) ≤ 400 then am_Wp d 133 18 [.ref 16, .int x1, .int x2, .int x3, .int x4, .int x5] [] (hp nS M) Q else am_Wp d 133 16 [.ref 16, .int x1, .int x2, .int x3, .int x4, .int x5] [] (hp nS M) Q := by
  refine (eq_run 6 (q := (13, [.ref 16, .int x1, .int x2, .int x3, .int x4, .int x5], [.int 400, .int ((M 187 0) + 20)], hp nS M)) (by with_unfolding_all rfl)).trans ?_
  exact eq_cmp_le (by with_unfolding_all rfl)
set_option maxRecDepth 20000 in
theorem b_133_16 {d nS : Nat} {x1 x2 x3 x4 x5 : Int32} {M : am_M} {Q : Option Value → am_H → Prop} : am_Wp d 133 16 [.ref 16, .int x1, .int x2, .int x3, .int x4, .int x5] [] (hp nS M) Q = Q (some (.int (-1))) (hp nS M) := by
  refine (eq_run 1 (q := (17, [.ref 16, .int x1, .int x2, .int x3, .int x4, .int x5], [.int (-1)], hp nS M)) (by with_unfolding_all rfl)).trans ?_
  exact eq_retI2 (e := (.ireturn, 1, 0, 0, 0)) (t := .int) (by with_unfolding_all rfl) rfl (by with_unfolding_all rfl) rfl
set_option maxRecDepth 20000 in
theorem b_133_18 {d nS : Nat} {x1 x2 x3 x4 x5 : Int32} {M : am_M} {Q : Option Value → am_H → Prop} : am_Wp (d + 1) 133 18 [.ref 16, .int x1, .int x2, .int x3, .int x4, .int x5] [] (hp nS M) Q = am_Wp d 41 0 [.ref 187, .int x1, .retAddr 0] [] (hp nS M) (fun v h1 => am_Wp (d + 1) 133 26 [.ref 16, .int x1, .int x2, .int x3, .int x4, .int x5] (am_ans v []) h1 Q) := by
  refine (eq_run 3 (q := (23, [.ref 16, .int x1, .int x2, .int x3, .int x4, .int x5], [.int x1, .ref 187], hp nS M)) (by with_unfolding_all rfl)).trans ?_
  exact eq_call2 (e := (.invokevirtual 141, 3, 0, 41, 20)) (as := [.ref 187, .int x1]) (r := []) (n := 2) (m := 3) (by with_unfolding_all rfl) rfl (by decide) (by with_unfolding_all rfl) (by decide) (by with_unfolding_all rfl) ⟨fun _ => am_rec_ok (c := 8) (by with_unfolding_all rfl) (by decide +kernel), fun z => by simp at z⟩
set_option maxRecDepth 20000 in
theorem b_133_26 {d nS : Nat} {x1 x2 x3 x4 x5 : Int32} {M : am_M} {Q : Option Value → am_H → Prop} : am_Wp (d + 1) 133 26 [.ref 16, .int x1, .int x2, .int x3, .int x4, .int x5] [] (hp nS M) Q = am_Wp d 41 0 [.ref 187, .int x2, .retAddr 0] [] (hp nS M) (fun v h1 => am_Wp (d + 1) 133 34 [.ref 16, .int x1, .int x2, .int x3, .int x4, .int x5] (am_ans v []) h1 Q) := by
  refine (eq_run 3 (q := (31, [.ref 16, .int x1, .int x2, .int x3, .int x4, .int x5], [.int x2, .ref 187], hp nS M)) (by with_unfolding_all rfl)).trans ?_
  exact eq_call2 (e := (.invokevirtual 141, 3, 0, 41, 20)) (as := [.ref 187, .int x2]) (r := []) (n := 2) (m := 3) (by with_unfolding_all rfl) rfl (by decide) (by with_unfolding_all rfl) (by decide) (by with_unfolding_all rfl) ⟨fun _ => am_rec_ok (c := 8) (by with_unfolding_all rfl) (by decide +kernel), fun z => by simp at z⟩
set_option maxRecDepth 20000 in
theorem b_133_34 {d nS : Nat} {x1 x2 x3 x4 x5 : Int32} {M : am_M} {Q : Option Value → am_H → Prop} : am_Wp (d + 1) 133 34 [.ref 16, .int x1, .int x2, .int x3, .int x4, .int x5] [] (hp nS M) Q = am_Wp d 41 0 [.ref 187, .int x3, .retAddr 0] [] (hp nS M) (fun v h1 => am_Wp (d + 1) 133 42 [.ref 16, .int x1, .int x2, .int x3, .int x4, .int x5] (am_ans v []) h1 Q) := by
  refine (eq_run 3 (q := (39, [.ref 16, .int x1, .int x2, .int x3, .int x4, .int x5], [.int x3, .ref 187], hp nS M)) (by with_unfolding_all rfl)).trans ?_
  exact eq_call2 (e := (.invokevirtual 141, 3, 0, 41, 20)) (as := [.ref 187, .int x3]) (r := []) (n := 2) (m := 3) (by with_unfolding_all rfl) rfl (by decide) (by with_unfolding_all rfl) (by decide) (by with_unfolding_all rfl) ⟨fun _ => am_rec_ok (c := 8) (by with_unfolding_all rfl) (by decide +kernel), fun z => by simp at z⟩
set_option maxRecDepth 20000 in
theorem b_133_42 {d nS : Nat} {x1 x2 x3 x4 x5 : Int32} {M : am_M} {Q : Option Value → am_H → Prop} : am_Wp (d + 1) 133 42 [.ref 16, .int x1, .int x2, .int x3, .int x4, .int x5] [] (hp nS M) Q = am_Wp d 41 0 [.ref 187, .int x4, .retAddr 0] [] (hp nS M) (fun v h1 => am_Wp (d + 1) 133 51 [.ref 16, .int x1, .int x2, .int x3, .int x4, .int x5] (am_ans v []) h1 Q) := by
  refine (eq_run 3 (q := (48, [.ref 16, .int x1, .int x2, .int x3, .int x4, .int x5], [.int x4, .ref 187], hp nS M)) (by with_unfolding_all rfl)).trans ?_
  exact eq_call2 (e := (.invokevirtual 141, 3, 0, 41, 20)) (as := [.ref 187, .int x4]) (r := []) (n := 2) (m := 3) (by with_unfolding_all rfl) rfl (by decide) (by with_unfolding_all rfl) (by decide) (by with_unfolding_all rfl) ⟨fun _ => am_rec_ok (c := 8) (by with_unfolding_all rfl) (by decide +kernel), fun z => by simp at z⟩
set_option maxRecDepth 20000 in
theorem b_133_51 {d nS : Nat} {x1 x2 x3 x4 x5 : Int32} {M : am_M} {Q : Option Value → am_H → Prop} : am_Wp (d + 1) 133 51 [.ref 16, .int x1, .int x2, .int x3, .int x4, .int x5] [] (hp nS M) Q = am_Wp d 41 0 [.ref 187, .int x5, .retAddr 0] [] (hp nS M) (fun v h1 => am_Wp (d + 1) 133 60 [.ref 16, .int x1, .int x2, .int x3, .int x4, .int x5] (am_ans v []) h1 Q) := by
  refine (eq_run 3 (q := (57, [.ref 16, .int x1, .int x2, .int x3, .int x4, .int x5], [.int x5, .ref 187], hp nS M)) (by with_unfolding_all rfl)).trans ?_
  exact eq_call2 (e := (.invokevirtual 141, 3, 0, 41, 20)) (as := [.ref 187, .int x5]) (r := []) (n := 2) (m := 3) (by with_unfolding_all rfl) rfl (by decide) (by with_unfolding_all rfl) (by decide) (by with_unfolding_all rfl) ⟨fun _ => am_rec_ok (c := 8) (by with_unfolding_all rfl) (by decide +kernel), fun z => by simp at z⟩
set_option maxRecDepth 20000 in
theorem b_133_60 {d nS : Nat} {x1 x2 x3 x4 x5 : Int32} {M : am_M} {Q : Option Value → am_H → Prop} : am_Wp d 133 60 [.ref 16, .int x1, .int x2, .int x3, .int x4, .int x5] [] (hp nS M) Q = Q (some (.int (M 187 0))) (hp nS M) := by
  refine (eq_run 3 (q := (67, [.ref 16, .int x1, .int x2, .int x3, .int x4, .int x5], [.int (M 187 0)], hp nS M)) (by with_unfolding_all rfl)).trans ?_
  exact eq_retI2 (e := (.ireturn, 1, 0, 0, 0)) (t := .int) (by with_unfolding_all rfl) rfl (by with_unfolding_all rfl) rfl
-- LarkExchange end(I)Z (134, (16, None))
set_option maxRecDepth 20000 in
theorem b_134_0 {d nS : Nat} {x1 : Int32} {M : am_M} {Q : Option Value → am_H → Prop} : am_Wp (d + 1) 134 0 [.ref 16, .int x1] [] (hp nS M) Q = am_Wp d 125 0 [.int x1, .int 0, .int (M 187 0)] [] (hp nS M) (fun v h1 => am_Wp (d + 1) 134 12 [.ref 16, .int x1] (am_ans v []) h1 Q) := by
  refine (eq_run 5 (q := (9, [.ref 16, .int x1], [.int (M 187 0), .int 0, .int x1], hp nS M)) (by with_unfolding_all rfl)).trans ?_
  exact eq_call2 (e := (.invokestatic 57, 3, 1, 125, 7)) (as := [.int x1, .int 0, .int (M 187 0)]) (r := []) (n := 3) (m := 3) (by with_unfolding_all rfl) rfl (by decide) (by with_unfolding_all rfl) (by decide) (by with_unfolding_all rfl) ⟨fun z => absurd z (by decide), fun z => by simp at z⟩
set_option maxRecDepth 20000 in
theorem b_134_12 {d nS : Nat} {x1 s0 : Int32} {M : am_M} {Q : Option Value → am_H → Prop} : am_Wp d 134 12 [.ref 16, .int x1] [.int s0] (hp nS M) Q = if s0 = 0 then am_Wp d 134 17 [.ref 16, .int x1] [] (hp nS M) Q else am_Wp d 134 15 [.ref 16, .int x1] [] (hp nS M) Q := by
  exact eq_if_eq (by with_unfolding_all rfl)
set_option maxRecDepth 20000 in
theorem b_134_15 {d nS : Nat} {x1 : Int32} {M : am_M} {Q : Option Value → am_H → Prop} : am_Wp d 134 15 [.ref 16, .int x1] [] (hp nS M) Q = Q (some (.int 0)) (hp nS M) := by
  refine (eq_run 1 (q := (16, [.ref 16, .int x1], [.int 0], hp nS M)) (by with_unfolding_all rfl)).trans ?_
  exact eq_retI2 (e := (.ireturn, 1, 0, 0, 0)) (t := .boolean) (by with_unfolding_all rfl) rfl (by with_unfolding_all rfl) rfl
set_option maxRecDepth 20000 in
theorem b_134_17 {d nS : Nat} {x1 : Int32} {M : am_M} {Q : Option Value → am_H → Prop} : am_Wp d 134 17 [.ref 16, .int x1] [] (hp nS M) Q = Q (some (.int 1)) (hp nS (am_up M 187 0 x1)) := by
  refine (eq_run 5 (q := (26, [.ref 16, .int x1], [.int 1], hp nS (am_up M 187 0 x1))) (by with_unfolding_all rfl)).trans ?_
  exact eq_retI2 (e := (.ireturn, 1, 0, 0, 0)) (t := .boolean) (by with_unfolding_all rfl) rfl (by with_unfolding_all rfl) rfl
-- LarkExchange text(I)I (135, (16, None))
set_option maxRecDepth 20000 in
theorem b_135_0 {d nS : Nat} {x1 : Int32} {M : am_M} {Q : Option Value → am_H → Prop} : am_Wp (d + 1) 135 0 [.ref 16, .int x1, .retAddr 0] [] (hp nS M) Q = am_Wp d 42 0 [.ref 187, .int x1, .ref 18, .retAddr 0, .retAddr 0] [] (hp nS M) (fun v h1 => am_Wp (d + 1) 135 15 [.ref 16, .int x1, .retAddr 0] (am_ans v []) h1 Q) := by
  refine (eq_run 6 (q := (12, [.ref 16, .int x1, .retAddr 0], [.ref 18, .int x1, .ref 187], hp nS M)) (by with_unfolding_all rfl)).trans ?_
  exact eq_call2 (e := (.invokevirtual 144, 3, 0, 42, 21)) (as := [.ref 187, .int x1, .ref 18]) (r := []) (n := 3) (m := 5) (by with_unfolding_all rfl) rfl (by decide) (by with_unfolding_all rfl) (by decide) (by with_unfolding_all rfl) ⟨fun _ => am_rec_ok (c := 8) (by with_unfolding_all rfl) (by decide +kernel), fun z => by simp at z⟩
set_option maxRecDepth 20000 in
theorem b_135_15 {d nS : Nat} {x1 s0 : Int32} {M : am_M} {Q : Option Value → am_H → Prop} : am_Wp d 135 15 [.ref 16, .int x1, .retAddr 0] [.int s0] (hp nS M) Q = if ¬ s0 = 0 then am_Wp d 135 20 [.ref 16, .int x1, .retAddr 0] [] (hp nS M) Q else am_Wp d 135 18 [.ref 16, .int x1, .retAddr 0] [] (hp nS M) Q := by
  exact eq_if_ne (by with_unfolding_all rfl)
set_option maxRecDepth 20000 in
theorem b_135_18 {d nS : Nat} {x1 : Int32} {M : am_M} {Q : Option Value → am_H → Prop} : am_Wp d 135 18 [.ref 16, .int x1, .retAddr 0] [] (hp nS M) Q = Q (some (.int (-1))) (hp nS M) := by
  refine (eq_run 1 (q := (19, [.ref 16, .int x1, .retAddr 0], [.int (-1)], hp nS M)) (by with_unfolding_all rfl)).trans ?_
  exact eq_retI2 (e := (.ireturn, 1, 0, 0, 0)) (t := .int) (by with_unfolding_all rfl) rfl (by with_unfolding_all rfl) rfl
set_option maxRecDepth 20000 in
theorem b_135_20 {d nS : Nat} {x1 : Int32} {M : am_M} {Q : Option Value → am_H → Prop} : am_Wp d 135 20 [.ref 16, .int x1, .retAddr 0] [] (hp nS M) Q = if ¬ x1 = 0 then am_Wp d 135 52 [.ref 16, .int x1, .retAddr 0] [] (hp nS M) Q else am_Wp d 135 24 [.ref 16, .int x1, .retAddr 0] [] (hp nS M) Q := by
  refine (eq_run 1 (q := (21, [.ref 16, .int x1, .retAddr 0], [.int x1], hp nS M)) (by with_unfolding_all rfl)).trans ?_
  exact eq_if_ne (by with_unfolding_all rfl)
set_option maxRecDepth 20000 in
theorem b_135_24 {d nS : Nat} {x1 : Int32} {M : am_M} {Q : Option Value → am_H → Prop} : am_Wp (d + 1) 135 24 [.ref 16, .int x1, .retAddr 0] [] (hp nS M) Q = am_Wp d 31 0 [.ref 31, .ref 188] [] (hp nS M) (fun v h1 => am_Wp (d + 1) 135 41 [.ref 16, .int x1, .retAddr 0] (am_ans v []) h1 Q) := by
  refine (eq_run 6 (q := (38, [.ref 16, .int x1, .retAddr 0], [.ref 188, .ref 31], hp nS M)) (by with_unfolding_all rfl)).trans ?_
  exact eq_call2 (e := (.invokevirtual 153, 3, 0, 31, 22)) (as := [.ref 31, .ref 188]) (r := []) (n := 2) (m := 2) (by with_unfolding_all rfl) rfl (by decide) (by with_unfolding_all rfl) (by decide) (by with_unfolding_all rfl) ⟨fun _ => am_rec_ok (c := 5) (by with_unfolding_all rfl) (by decide +kernel), fun z => by simp at z⟩
set_option maxRecDepth 20000 in
theorem b_135_41 {d nS : Nat} {x1 : Int32} {M : am_M} {Q : Option Value → am_H → Prop} : am_Wp d 135 41 [.ref 16, .int x1, .retAddr 0] [] (hp nS M) Q = Q (some (.int (M 31 0))) (hp nS M) := by
  refine (eq_run 4 (q := (51, [.ref 16, .int x1, .retAddr 0], [.int (M 31 0)], hp nS M)) (by with_unfolding_all rfl)).trans ?_
  exact eq_retI2 (e := (.ireturn, 1, 0, 0, 0)) (t := .int) (by with_unfolding_all rfl) rfl (by with_unfolding_all rfl) rfl
set_option maxRecDepth 20000 in
theorem b_135_52 {d nS : Nat} {x1 : Int32} {M : am_M} {Q : Option Value → am_H → Prop} : am_Wp d 135 52 [.ref 16, .int x1, .retAddr 0] [] (hp nS M) Q = if ¬ x1 = 1 then am_Wp d 135 67 [.ref 16, .int x1, .retAddr 0] [] (hp nS M) Q else am_Wp d 135 57 [.ref 16, .int x1, .retAddr 0] [] (hp nS M) Q := by
  refine (eq_run 2 (q := (54, [.ref 16, .int x1, .retAddr 0], [.int 1, .int x1], hp nS M)) (by with_unfolding_all rfl)).trans ?_
  exact eq_cmp_ne (by with_unfolding_all rfl)
set_option maxRecDepth 20000 in
theorem b_135_57 {d nS : Nat} {x1 : Int32} {M : am_M} {Q : Option Value → am_H → Prop} : am_Wp d 135 57 [.ref 16, .int x1, .retAddr 0] [] (hp nS M) Q = am_Wp d 135 89 [.ref 16, .int x1, .retAddr 0] [.ref 39] (hp nS M) Q := by
  exact eq_run 4 (q := (89, [.ref 16, .int x1, .retAddr 0], [.ref 39], hp nS M)) (by with_unfolding_all rfl)
set_option maxRecDepth 20000 in
theorem b_135_67 {d nS : Nat} {x1 : Int32} {M : am_M} {Q : Option Value → am_H → Prop} : am_Wp d 135 67 [.ref 16, .int x1, .retAddr 0] [] (hp nS M) Q = if ¬ x1 = 2 then am_Wp d 135 82 [.ref 16, .int x1, .retAddr 0] [] (hp nS M) Q else am_Wp d 135 72 [.ref 16, .int x1, .retAddr 0] [] (hp nS M) Q := by
  refine (eq_run 2 (q := (69, [.ref 16, .int x1, .retAddr 0], [.int 2, .int x1], hp nS M)) (by with_unfolding_all rfl)).trans ?_
  exact eq_cmp_ne (by with_unfolding_all rfl)
set_option maxRecDepth 20000 in
theorem b_135_72 {d nS : Nat} {x1 : Int32} {M : am_M} {Q : Option Value → am_H → Prop} : am_Wp d 135 72 [.ref 16, .int x1, .retAddr 0] [] (hp nS M) Q = am_Wp d 135 89 [.ref 16, .int x1, .retAddr 0] [.ref 41] (hp nS M) Q := by
  exact eq_run 4 (q := (89, [.ref 16, .int x1, .retAddr 0], [.ref 41], hp nS M)) (by with_unfolding_all rfl)
set_option maxRecDepth 20000 in
theorem b_135_82 {d nS : Nat} {x1 : Int32} {M : am_M} {Q : Option Value → am_H → Prop} : am_Wp d 135 82 [.ref 16, .int x1, .retAddr 0] [] (hp nS M) Q = am_Wp d 135 89 [.ref 16, .int x1, .retAddr 0] [.ref 43] (hp nS M) Q := by
  exact eq_run 3 (q := (89, [.ref 16, .int x1, .retAddr 0], [.ref 43], hp nS M)) (by with_unfolding_all rfl)
set_option maxRecDepth 20000 in
theorem b_135_89 {d nS : Nat} {x1 : Int32} {M : am_M} {Q : Option Value → am_H → Prop} : am_Wp (d + 1) 135 89 [.ref 16, .int x1, .retAddr 0] [.ref 39] (hp nS M) Q = am_Wp d 35 0 [.ref 39, .ref 196] [] (hp nS M) (fun v h1 => am_Wp (d + 1) 135 101 [.ref 16, .int x1, .ref 39] (am_ans v []) h1 Q) := by
  refine (eq_run 5 (q := (98, [.ref 16, .int x1, .ref 39], [.ref 196, .ref 39], hp nS M)) (by with_unfolding_all rfl)).trans ?_
  exact eq_call2 (e := (.invokevirtual 174, 3, 0, 35, 23)) (as := [.ref 39, .ref 196]) (r := []) (n := 2) (m := 2) (by with_unfolding_all rfl) rfl (by decide) (by with_unfolding_all rfl) (by decide) (by with_unfolding_all rfl) ⟨fun _ => am_rec_ok (c := 6) (by with_unfolding_all rfl) (by decide +kernel), fun z => by simp at z⟩
set_option maxRecDepth 20000 in
theorem b_135_89v1 {d nS : Nat} {x1 : Int32} {M : am_M} {Q : Option Value → am_H → Prop} : am_Wp (d + 1) 135 89 [.ref 16, .int x1, .retAddr 0] [.ref 41] (hp nS M) Q = am_Wp d 35 0 [.ref 41, .ref 196] [] (hp nS M) (fun v h1 => am_Wp (d + 1) 135 101 [.ref 16, .int x1, .ref 41] (am_ans v []) h1 Q) := by
  refine (eq_run 5 (q := (98, [.ref 16, .int x1, .ref 41], [.ref 196, .ref 41], hp nS M)) (by with_unfolding_all rfl)).trans ?_
  exact eq_call2 (e := (.invokevirtual 174, 3, 0, 35, 23)) (as := [.ref 41, .ref 196]) (r := []) (n := 2) (m := 2) (by with_unfolding_all rfl) rfl (by decide) (by with_unfolding_all rfl) (by decide) (by with_unfolding_all rfl) ⟨fun _ => am_rec_ok (c := 6) (by with_unfolding_all rfl) (by decide +kernel), fun z => by simp at z⟩
set_option maxRecDepth 20000 in
theorem b_135_89v2 {d nS : Nat} {x1 : Int32} {M : am_M} {Q : Option Value → am_H → Prop} : am_Wp (d + 1) 135 89 [.ref 16, .int x1, .retAddr 0] [.ref 43] (hp nS M) Q = am_Wp d 35 0 [.ref 43, .ref 196] [] (hp nS M) (fun v h1 => am_Wp (d + 1) 135 101 [.ref 16, .int x1, .ref 43] (am_ans v []) h1 Q) := by
  refine (eq_run 5 (q := (98, [.ref 16, .int x1, .ref 43], [.ref 196, .ref 43], hp nS M)) (by with_unfolding_all rfl)).trans ?_
  exact eq_call2 (e := (.invokevirtual 174, 3, 0, 35, 23)) (as := [.ref 43, .ref 196]) (r := []) (n := 2) (m := 2) (by with_unfolding_all rfl) rfl (by decide) (by with_unfolding_all rfl) (by decide) (by with_unfolding_all rfl) ⟨fun _ => am_rec_ok (c := 6) (by with_unfolding_all rfl) (by decide +kernel), fun z => by simp at z⟩
set_option maxRecDepth 20000 in
theorem b_135_101 {d nS : Nat} {x1 : Int32} {M : am_M} {Q : Option Value → am_H → Prop} : am_Wp d 135 101 [.ref 16, .int x1, .ref 39] [] (hp nS M) Q = if ¬ x1 = 3 then am_Wp d 135 117 [.ref 16, .int x1, .ref 39] [] (hp nS M) Q else am_Wp d 135 106 [.ref 16, .int x1, .ref 39] [] (hp nS M) Q := by
  refine (eq_run 2 (q := (103, [.ref 16, .int x1, .ref 39], [.int 3, .int x1], hp nS M)) (by with_unfolding_all rfl)).trans ?_
  exact eq_cmp_ne (by with_unfolding_all rfl)
set_option maxRecDepth 20000 in
theorem b_135_101v1 {d nS : Nat} {x1 : Int32} {M : am_M} {Q : Option Value → am_H → Prop} : am_Wp d 135 101 [.ref 16, .int x1, .ref 41] [] (hp nS M) Q = if ¬ x1 = 3 then am_Wp d 135 117 [.ref 16, .int x1, .ref 41] [] (hp nS M) Q else am_Wp d 135 106 [.ref 16, .int x1, .ref 41] [] (hp nS M) Q := by
  refine (eq_run 2 (q := (103, [.ref 16, .int x1, .ref 41], [.int 3, .int x1], hp nS M)) (by with_unfolding_all rfl)).trans ?_
  exact eq_cmp_ne (by with_unfolding_all rfl)
set_option maxRecDepth 20000 in
theorem b_135_101v2 {d nS : Nat} {x1 : Int32} {M : am_M} {Q : Option Value → am_H → Prop} : am_Wp d 135 101 [.ref 16, .int x1, .ref 43] [] (hp nS M) Q = if ¬ x1 = 3 then am_Wp d 135 117 [.ref 16, .int x1, .ref 43] [] (hp nS M) Q else am_Wp d 135 106 [.ref 16, .int x1, .ref 43] [] (hp nS M) Q := by
  refine (eq_run 2 (q := (103, [.ref 16, .int x1, .ref 43], [.int 3, .int x1], hp nS M)) (by with_unfolding_all rfl)).trans ?_
  exact eq_cmp_ne (by with_unfolding_all rfl)
set_option maxRecDepth 20000 in
theorem b_135_106 {d nS : Nat} {x1 : Int32} {M : am_M} {Q : Option Value → am_H → Prop} : am_Wp (d + 1) 135 106 [.ref 16, .int x1, .ref 39] [] (hp nS M) Q = am_Wp d 118 0 [.ref 18, .ref 39, .retAddr 0, .retAddr 0] [] (hp nS M) (fun v h1 => am_Wp (d + 1) 135 117 [.ref 16, .int x1, .ref 39] (am_ans v []) h1 Q) := by
  refine (eq_run 4 (q := (114, [.ref 16, .int x1, .ref 39], [.ref 39, .ref 18], hp nS M)) (by with_unfolding_all rfl)).trans ?_
  exact eq_call2 (e := (.invokevirtual 179, 3, 0, 118, 24)) (as := [.ref 18, .ref 39]) (r := []) (n := 2) (m := 4) (by with_unfolding_all rfl) rfl (by decide) (by with_unfolding_all rfl) (by decide) (by with_unfolding_all rfl) ⟨fun _ => am_rec_ok (c := 12) (by with_unfolding_all rfl) (by decide +kernel), fun z => by simp at z⟩
set_option maxRecDepth 20000 in
theorem b_135_106v1 {d nS : Nat} {x1 : Int32} {M : am_M} {Q : Option Value → am_H → Prop} : am_Wp (d + 1) 135 106 [.ref 16, .int x1, .ref 41] [] (hp nS M) Q = am_Wp d 118 0 [.ref 18, .ref 41, .retAddr 0, .retAddr 0] [] (hp nS M) (fun v h1 => am_Wp (d + 1) 135 117 [.ref 16, .int x1, .ref 41] (am_ans v []) h1 Q) := by
  refine (eq_run 4 (q := (114, [.ref 16, .int x1, .ref 41], [.ref 41, .ref 18], hp nS M)) (by with_unfolding_all rfl)).trans ?_
  exact eq_call2 (e := (.invokevirtual 179, 3, 0, 118, 24)) (as := [.ref 18, .ref 41]) (r := []) (n := 2) (m := 4) (by with_unfolding_all rfl) rfl (by decide) (by with_unfolding_all rfl) (by decide) (by with_unfolding_all rfl) ⟨fun _ => am_rec_ok (c := 12) (by with_unfolding_all rfl) (by decide +kernel), fun z => by simp at z⟩
set_option maxRecDepth 20000 in
theorem b_135_106v2 {d nS : Nat} {x1 : Int32} {M : am_M} {Q : Option Value → am_H → Prop} : am_Wp (d + 1) 135 106 [.ref 16, .int x1, .ref 43] [] (hp nS M) Q = am_Wp d 118 0 [.ref 18, .ref 43, .retAddr 0, .retAddr 0] [] (hp nS M) (fun v h1 => am_Wp (d + 1) 135 117 [.ref 16, .int x1, .ref 43] (am_ans v []) h1 Q) := by
  refine (eq_run 4 (q := (114, [.ref 16, .int x1, .ref 43], [.ref 43, .ref 18], hp nS M)) (by with_unfolding_all rfl)).trans ?_
  exact eq_call2 (e := (.invokevirtual 179, 3, 0, 118, 24)) (as := [.ref 18, .ref 43]) (r := []) (n := 2) (m := 4) (by with_unfolding_all rfl) rfl (by decide) (by with_unfolding_all rfl) (by decide) (by with_unfolding_all rfl) ⟨fun _ => am_rec_ok (c := 12) (by with_unfolding_all rfl) (by decide +kernel), fun z => by simp at z⟩
set_option maxRecDepth 20000 in
theorem b_135_117 {d nS : Nat} {x1 : Int32} {M : am_M} {Q : Option Value → am_H → Prop} : am_Wp (d + 1) 135 117 [.ref 16, .int x1, .ref 39] [] (hp nS M) Q = am_Wp d 37 0 [.ref 113] [] (hp nS M) (fun v h1 => am_Wp (d + 1) 135 124 [.ref 16, .int x1, .ref 39] (am_ans v []) h1 Q) := by
  refine (eq_run 2 (q := (121, [.ref 16, .int x1, .ref 39], [.ref 113], hp nS M)) (by with_unfolding_all rfl)).trans ?_
  exact eq_call2 (e := (.invokevirtual 54, 3, 0, 37, 6)) (as := [.ref 113]) (r := []) (n := 1) (m := 1) (by with_unfolding_all rfl) rfl (by decide) (by with_unfolding_all rfl) (by decide) (by with_unfolding_all rfl) ⟨fun _ => am_rec_ok (c := 7) (by with_unfolding_all rfl) (by decide +kernel), fun z => by simp at z⟩
set_option maxRecDepth 20000 in
theorem b_135_117v1 {d nS : Nat} {x1 : Int32} {M : am_M} {Q : Option Value → am_H → Prop} : am_Wp (d + 1) 135 117 [.ref 16, .int x1, .ref 41] [] (hp nS M) Q = am_Wp d 37 0 [.ref 113] [] (hp nS M) (fun v h1 => am_Wp (d + 1) 135 124 [.ref 16, .int x1, .ref 41] (am_ans v []) h1 Q) := by
  refine (eq_run 2 (q := (121, [.ref 16, .int x1, .ref 41], [.ref 113], hp nS M)) (by with_unfolding_all rfl)).trans ?_
  exact eq_call2 (e := (.invokevirtual 54, 3, 0, 37, 6)) (as := [.ref 113]) (r := []) (n := 1) (m := 1) (by with_unfolding_all rfl) rfl (by decide) (by with_unfolding_all rfl) (by decide) (by with_unfolding_all rfl) ⟨fun _ => am_rec_ok (c := 7) (by with_unfolding_all rfl) (by decide +kernel), fun z => by simp at z⟩
set_option maxRecDepth 20000 in
theorem b_135_117v2 {d nS : Nat} {x1 : Int32} {M : am_M} {Q : Option Value → am_H → Prop} : am_Wp (d + 1) 135 117 [.ref 16, .int x1, .ref 43] [] (hp nS M) Q = am_Wp d 37 0 [.ref 113] [] (hp nS M) (fun v h1 => am_Wp (d + 1) 135 124 [.ref 16, .int x1, .ref 43] (am_ans v []) h1 Q) := by
  refine (eq_run 2 (q := (121, [.ref 16, .int x1, .ref 43], [.ref 113], hp nS M)) (by with_unfolding_all rfl)).trans ?_
  exact eq_call2 (e := (.invokevirtual 54, 3, 0, 37, 6)) (as := [.ref 113]) (r := []) (n := 1) (m := 1) (by with_unfolding_all rfl) rfl (by decide) (by with_unfolding_all rfl) (by decide) (by with_unfolding_all rfl) ⟨fun _ => am_rec_ok (c := 7) (by with_unfolding_all rfl) (by decide +kernel), fun z => by simp at z⟩
set_option maxRecDepth 20000 in
theorem b_135_124 {d nS : Nat} {x1 : Int32} {M : am_M} {Q : Option Value → am_H → Prop} : am_Wp d 135 124 [.ref 16, .int x1, .ref 39] [] (hp nS M) Q = Q (some (.int (M 39 1))) (hp nS M) := by
  refine (eq_run 2 (q := (128, [.ref 16, .int x1, .ref 39], [.int (M 39 1)], hp nS M)) (by with_unfolding_all rfl)).trans ?_
  exact eq_retI2 (e := (.ireturn, 1, 0, 0, 0)) (t := .int) (by with_unfolding_all rfl) rfl (by with_unfolding_all rfl) rfl
set_option maxRecDepth 20000 in
theorem b_135_124v1 {d nS : Nat} {x1 : Int32} {M : am_M} {Q : Option Value → am_H → Prop} : am_Wp d 135 124 [.ref 16, .int x1, .ref 41] [] (hp nS M) Q = Q (some (.int (M 41 1))) (hp nS M) := by
  refine (eq_run 2 (q := (128, [.ref 16, .int x1, .ref 41], [.int (M 41 1)], hp nS M)) (by with_unfolding_all rfl)).trans ?_
  exact eq_retI2 (e := (.ireturn, 1, 0, 0, 0)) (t := .int) (by with_unfolding_all rfl) rfl (by with_unfolding_all rfl) rfl
set_option maxRecDepth 20000 in
theorem b_135_124v2 {d nS : Nat} {x1 : Int32} {M : am_M} {Q : Option Value → am_H → Prop} : am_Wp d 135 124 [.ref 16, .int x1, .ref 43] [] (hp nS M) Q = Q (some (.int (M 43 1))) (hp nS M) := by
  refine (eq_run 2 (q := (128, [.ref 16, .int x1, .ref 43], [.int (M 43 1)], hp nS M)) (by with_unfolding_all rfl)).trans ?_
  exact eq_retI2 (e := (.ireturn, 1, 0, 0, 0)) (t := .int) (by with_unfolding_all rfl) rfl (by with_unfolding_all rfl) rfl
-- LarkExchange fault(I)I (136, (16, None))
set_option maxRecDepth 20000 in
theorem b_136_0 {d nS : Nat} {x1 : Int32} {M : am_M} {Q : Option Value → am_H → Prop} : am_Wp d 136 0 [.ref 16, .int x1] [] (hp nS M) Q = if ¬ x1 = 0 then am_Wp d 136 12 [.ref 16, .int x1] [] (hp nS M) Q else am_Wp d 136 4 [.ref 16, .int x1] [] (hp nS M) Q := by
  refine (eq_run 1 (q := (1, [.ref 16, .int x1], [.int x1], hp nS M)) (by with_unfolding_all rfl)).trans ?_
  exact eq_if_ne (by with_unfolding_all rfl)
set_option maxRecDepth 20000 in
theorem b_136_4 {d nS : Nat} {x1 : Int32} {M : am_M} {Q : Option Value → am_H → Prop} : am_Wp d 136 4 [.ref 16, .int x1] [] (hp nS M) Q = Q (some (.int (M 187 1))) (hp nS M) := by
  refine (eq_run 3 (q := (11, [.ref 16, .int x1], [.int (M 187 1)], hp nS M)) (by with_unfolding_all rfl)).trans ?_
  exact eq_retI2 (e := (.ireturn, 1, 0, 0, 0)) (t := .int) (by with_unfolding_all rfl) rfl (by with_unfolding_all rfl) rfl
set_option maxRecDepth 20000 in
theorem b_136_12 {d nS : Nat} {x1 : Int32} {M : am_M} {Q : Option Value → am_H → Prop} : am_Wp d 136 12 [.ref 16, .int x1] [] (hp nS M) Q = if ¬ x1 = 1 then am_Wp d 136 27 [.ref 16, .int x1] [] (hp nS M) Q else am_Wp d 136 17 [.ref 16, .int x1] [] (hp nS M) Q := by
  refine (eq_run 2 (q := (14, [.ref 16, .int x1], [.int 1, .int x1], hp nS M)) (by with_unfolding_all rfl)).trans ?_
  exact eq_cmp_ne (by with_unfolding_all rfl)
set_option maxRecDepth 20000 in
theorem b_136_17 {d nS : Nat} {x1 : Int32} {M : am_M} {Q : Option Value → am_H → Prop} : am_Wp d 136 17 [.ref 16, .int x1] [] (hp nS M) Q = am_Wp d 136 28 [.ref 16, .int x1] [.int (M 187 2)] (hp nS M) Q := by
  exact eq_run 4 (q := (28, [.ref 16, .int x1], [.int (M 187 2)], hp nS M)) (by with_unfolding_all rfl)
set_option maxRecDepth 20000 in
theorem b_136_27 {d nS : Nat} {x1 : Int32} {M : am_M} {Q : Option Value → am_H → Prop} : am_Wp d 136 27 [.ref 16, .int x1] [] (hp nS M) Q = am_Wp d 136 28 [.ref 16, .int x1] [.int (-1)] (hp nS M) Q := by
  exact eq_run 1 (q := (28, [.ref 16, .int x1], [.int (-1)], hp nS M)) (by with_unfolding_all rfl)
set_option maxRecDepth 20000 in
theorem b_136_28 {d nS : Nat} {x1 s0 : Int32} {M : am_M} {Q : Option Value → am_H → Prop} : am_Wp d 136 28 [.ref 16, .int x1] [.int s0] (hp nS M) Q = Q (some (.int s0)) (hp nS M) := by
  exact eq_retI2 (e := (.ireturn, 1, 0, 0, 0)) (t := .int) (by with_unfolding_all rfl) rfl (by with_unfolding_all rfl) rfl
