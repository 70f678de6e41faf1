section
/-! THE CONSTRUCTORS RUN -/
set_option maxRecDepth 20000 in
-- LarkExchange$World.<init> of [.ref 18]
theorem in_1 {d nS : Nat} {xs : Nat → Int32} {Q : Option Value → am_H → Prop} (k : Q none (hO nS xs lg_25)) : am_Wp (d + 1) 102 0 [.ref 18] [] (hO nS xs lg_3) Q := by
  refine wp_step (e := (.aload_n 0, 1, 0, 0, 0)) (q := (1, [.ref 18], [.ref 18], hO nS xs lg_3)) (am_cF_to (by with_unfolding_all rfl)) rfl (by with_unfolding_all rfl) ?_
  show am_Wp _ 102 1 _ _ _ _
  refine wp_obj (e := (.invokespecial 3, 3, 5, 0, 185)) (am_cF_to (by with_unfolding_all rfl)) rfl rfl (by decide) ?_
  show am_Wp _ 102 4 _ _ _ _
  refine wp_step (e := (.aload_n 0, 1, 0, 0, 0)) (q := (5, [.ref 18], [.ref 18], hO nS xs lg_3)) (am_cF_to (by with_unfolding_all rfl)) rfl (by with_unfolding_all rfl) ?_
  show am_Wp _ 102 5 _ _ _ _
  refine wp_step (e := (.bipush 6, 2, 0, 0, 0)) (q := (7, [.ref 18], [.int 6, .ref 18], hO nS xs lg_3)) (am_cF_to (by with_unfolding_all rfl)) rfl (by with_unfolding_all rfl) ?_
  show am_Wp _ 102 7 _ _ _ _
  refine wp_step (e := (.newarray .int, 2, 0, 0, 0)) (q := (9, [.ref 18], [.ref 19, .ref 18], hO nS xs lg_4)) (am_cF_to (by with_unfolding_all rfl)) rfl (by with_unfolding_all rfl) ?_
  show am_Wp _ 102 9 _ _ _ _
  refine wp_step (e := (.putfield 9, 3, 9, 7, 122)) (q := (12, [.ref 18], [], hO nS xs lg_5)) (am_cF_to (by with_unfolding_all rfl)) rfl (by with_unfolding_all rfl) ?_
  show am_Wp _ 102 12 _ _ _ _
  refine wp_step (e := (.aload_n 0, 1, 0, 0, 0)) (q := (13, [.ref 18], [.ref 18], hO nS xs lg_5)) (am_cF_to (by with_unfolding_all rfl)) rfl (by with_unfolding_all rfl) ?_
  show am_Wp _ 102 13 _ _ _ _
  refine wp_step (e := (.bipush 6, 2, 0, 0, 0)) (q := (15, [.ref 18], [.int 6, .ref 18], hO nS xs lg_5)) (am_cF_to (by with_unfolding_all rfl)) rfl (by with_unfolding_all rfl) ?_
  show am_Wp _ 102 15 _ _ _ _
  refine wp_step (e := (.newarray .int, 2, 0, 0, 0)) (q := (17, [.ref 18], [.ref 20, .ref 18], hO nS xs lg_6)) (am_cF_to (by with_unfolding_all rfl)) rfl (by with_unfolding_all rfl) ?_
  show am_Wp _ 102 17 _ _ _ _
  refine wp_step (e := (.putfield 15, 3, 9, 8, 123)) (q := (20, [.ref 18], [], hO nS xs lg_7)) (am_cF_to (by with_unfolding_all rfl)) rfl (by with_unfolding_all rfl) ?_
  show am_Wp _ 102 20 _ _ _ _
  refine wp_step (e := (.aload_n 0, 1, 0, 0, 0)) (q := (21, [.ref 18], [.ref 18], hO nS xs lg_7)) (am_cF_to (by with_unfolding_all rfl)) rfl (by with_unfolding_all rfl) ?_
  show am_Wp _ 102 21 _ _ _ _
  refine wp_step (e := (.bipush 6, 2, 0, 0, 0)) (q := (23, [.ref 18], [.int 6, .ref 18], hO nS xs lg_7)) (am_cF_to (by with_unfolding_all rfl)) rfl (by with_unfolding_all rfl) ?_
  show am_Wp _ 102 23 _ _ _ _
  refine wp_step (e := (.newarray .int, 2, 0, 0, 0)) (q := (25, [.ref 18], [.ref 21, .ref 18], hO nS xs lg_8)) (am_cF_to (by with_unfolding_all rfl)) rfl (by with_unfolding_all rfl) ?_
  show am_Wp _ 102 25 _ _ _ _
  refine wp_step (e := (.putfield 18, 3, 9, 9, 124)) (q := (28, [.ref 18], [], hO nS xs lg_9)) (am_cF_to (by with_unfolding_all rfl)) rfl (by with_unfolding_all rfl) ?_
  show am_Wp _ 102 28 _ _ _ _
  refine wp_step (e := (.aload_n 0, 1, 0, 0, 0)) (q := (29, [.ref 18], [.ref 18], hO nS xs lg_9)) (am_cF_to (by with_unfolding_all rfl)) rfl (by with_unfolding_all rfl) ?_
  show am_Wp _ 102 29 _ _ _ _
  refine wp_step (e := (.bipush 6, 2, 0, 0, 0)) (q := (31, [.ref 18], [.int 6, .ref 18], hO nS xs lg_9)) (am_cF_to (by with_unfolding_all rfl)) rfl (by with_unfolding_all rfl) ?_
  show am_Wp _ 102 31 _ _ _ _
  refine wp_step (e := (.newarray .int, 2, 0, 0, 0)) (q := (33, [.ref 18], [.ref 22, .ref 18], hO nS xs lg_10)) (am_cF_to (by with_unfolding_all rfl)) rfl (by with_unfolding_all rfl) ?_
  show am_Wp _ 102 33 _ _ _ _
  refine wp_step (e := (.putfield 21, 3, 9, 10, 125)) (q := (36, [.ref 18], [], hO nS xs lg_11)) (am_cF_to (by with_unfolding_all rfl)) rfl (by with_unfolding_all rfl) ?_
  show am_Wp _ 102 36 _ _ _ _
  refine wp_step (e := (.aload_n 0, 1, 0, 0, 0)) (q := (37, [.ref 18], [.ref 18], hO nS xs lg_11)) (am_cF_to (by with_unfolding_all rfl)) rfl (by with_unfolding_all rfl) ?_
  show am_Wp _ 102 37 _ _ _ _
  refine wp_step (e := (.bipush 6, 2, 0, 0, 0)) (q := (39, [.ref 18], [.int 6, .ref 18], hO nS xs lg_11)) (am_cF_to (by with_unfolding_all rfl)) rfl (by with_unfolding_all rfl) ?_
  show am_Wp _ 102 39 _ _ _ _
  refine wp_step (e := (.newarray .int, 2, 0, 0, 0)) (q := (41, [.ref 18], [.ref 23, .ref 18], hO nS xs lg_12)) (am_cF_to (by with_unfolding_all rfl)) rfl (by with_unfolding_all rfl) ?_
  show am_Wp _ 102 41 _ _ _ _
  refine wp_step (e := (.putfield 24, 3, 9, 11, 126)) (q := (44, [.ref 18], [], hO nS xs lg_13)) (am_cF_to (by with_unfolding_all rfl)) rfl (by with_unfolding_all rfl) ?_
  show am_Wp _ 102 44 _ _ _ _
  refine wp_step (e := (.aload_n 0, 1, 0, 0, 0)) (q := (45, [.ref 18], [.ref 18], hO nS xs lg_13)) (am_cF_to (by with_unfolding_all rfl)) rfl (by with_unfolding_all rfl) ?_
  show am_Wp _ 102 45 _ _ _ _
  refine wp_step (e := (.bipush 8, 2, 0, 0, 0)) (q := (47, [.ref 18], [.int 8, .ref 18], hO nS xs lg_13)) (am_cF_to (by with_unfolding_all rfl)) rfl (by with_unfolding_all rfl) ?_
  show am_Wp _ 102 47 _ _ _ _
  refine wp_step (e := (.newarray .int, 2, 0, 0, 0)) (q := (49, [.ref 18], [.ref 24, .ref 18], hO nS xs lg_14)) (am_cF_to (by with_unfolding_all rfl)) rfl (by with_unfolding_all rfl) ?_
  show am_Wp _ 102 49 _ _ _ _
  refine wp_step (e := (.putfield 27, 3, 9, 12, 127)) (q := (52, [.ref 18], [], hO nS xs lg_15)) (am_cF_to (by with_unfolding_all rfl)) rfl (by with_unfolding_all rfl) ?_
  show am_Wp _ 102 52 _ _ _ _
  refine wp_step (e := (.aload_n 0, 1, 0, 0, 0)) (q := (53, [.ref 18], [.ref 18], hO nS xs lg_15)) (am_cF_to (by with_unfolding_all rfl)) rfl (by with_unfolding_all rfl) ?_
  show am_Wp _ 102 53 _ _ _ _
  refine wp_step (e := (.bipush 8, 2, 0, 0, 0)) (q := (55, [.ref 18], [.int 8, .ref 18], hO nS xs lg_15)) (am_cF_to (by with_unfolding_all rfl)) rfl (by with_unfolding_all rfl) ?_
  show am_Wp _ 102 55 _ _ _ _
  refine wp_step (e := (.newarray .int, 2, 0, 0, 0)) (q := (57, [.ref 18], [.ref 25, .ref 18], hO nS xs lg_16)) (am_cF_to (by with_unfolding_all rfl)) rfl (by with_unfolding_all rfl) ?_
  show am_Wp _ 102 57 _ _ _ _
  refine wp_step (e := (.putfield 30, 3, 9, 13, 128)) (q := (60, [.ref 18], [], hO nS xs lg_17)) (am_cF_to (by with_unfolding_all rfl)) rfl (by with_unfolding_all rfl) ?_
  show am_Wp _ 102 60 _ _ _ _
  refine wp_step (e := (.aload_n 0, 1, 0, 0, 0)) (q := (61, [.ref 18], [.ref 18], hO nS xs lg_17)) (am_cF_to (by with_unfolding_all rfl)) rfl (by with_unfolding_all rfl) ?_
  show am_Wp _ 102 61 _ _ _ _
  refine wp_step (e := (.bipush 8, 2, 0, 0, 0)) (q := (63, [.ref 18], [.int 8, .ref 18], hO nS xs lg_17)) (am_cF_to (by with_unfolding_all rfl)) rfl (by with_unfolding_all rfl) ?_
  show am_Wp _ 102 63 _ _ _ _
  refine wp_step (e := (.newarray .int, 2, 0, 0, 0)) (q := (65, [.ref 18], [.ref 26, .ref 18], hO nS xs lg_18)) (am_cF_to (by with_unfolding_all rfl)) rfl (by with_unfolding_all rfl) ?_
  show am_Wp _ 102 65 _ _ _ _
  refine wp_step (e := (.putfield 33, 3, 9, 14, 129)) (q := (68, [.ref 18], [], hO nS xs lg_19)) (am_cF_to (by with_unfolding_all rfl)) rfl (by with_unfolding_all rfl) ?_
  show am_Wp _ 102 68 _ _ _ _
  refine wp_step (e := (.aload_n 0, 1, 0, 0, 0)) (q := (69, [.ref 18], [.ref 18], hO nS xs lg_19)) (am_cF_to (by with_unfolding_all rfl)) rfl (by with_unfolding_all rfl) ?_
  show am_Wp _ 102 69 _ _ _ _
  refine wp_step (e := (.bipush 10, 2, 0, 0, 0)) (q := (71, [.ref 18], [.int 10, .ref 18], hO nS xs lg_19)) (am_cF_to (by with_unfolding_all rfl)) rfl (by with_unfolding_all rfl) ?_
  show am_Wp _ 102 71 _ _ _ _
  refine wp_step (e := (.newarray .int, 2, 0, 0, 0)) (q := (73, [.ref 18], [.ref 27, .ref 18], hO nS xs lg_20)) (am_cF_to (by with_unfolding_all rfl)) rfl (by with_unfolding_all rfl) ?_
  show am_Wp _ 102 73 _ _ _ _
  refine wp_step (e := (.putfield 36, 3, 9, 15, 130)) (q := (76, [.ref 18], [], hO nS xs lg_21)) (am_cF_to (by with_unfolding_all rfl)) rfl (by with_unfolding_all rfl) ?_
  show am_Wp _ 102 76 _ _ _ _
  refine wp_step (e := (.aload_n 0, 1, 0, 0, 0)) (q := (77, [.ref 18], [.ref 18], hO nS xs lg_21)) (am_cF_to (by with_unfolding_all rfl)) rfl (by with_unfolding_all rfl) ?_
  show am_Wp _ 102 77 _ _ _ _
  refine wp_step (e := (.bipush 10, 2, 0, 0, 0)) (q := (79, [.ref 18], [.int 10, .ref 18], hO nS xs lg_21)) (am_cF_to (by with_unfolding_all rfl)) rfl (by with_unfolding_all rfl) ?_
  show am_Wp _ 102 79 _ _ _ _
  refine wp_step (e := (.newarray .int, 2, 0, 0, 0)) (q := (81, [.ref 18], [.ref 28, .ref 18], hO nS xs lg_22)) (am_cF_to (by with_unfolding_all rfl)) rfl (by with_unfolding_all rfl) ?_
  show am_Wp _ 102 81 _ _ _ _
  refine wp_step (e := (.putfield 39, 3, 9, 16, 131)) (q := (84, [.ref 18], [], hO nS xs lg_23)) (am_cF_to (by with_unfolding_all rfl)) rfl (by with_unfolding_all rfl) ?_
  show am_Wp _ 102 84 _ _ _ _
  refine wp_step (e := (.aload_n 0, 1, 0, 0, 0)) (q := (85, [.ref 18], [.ref 18], hO nS xs lg_23)) (am_cF_to (by with_unfolding_all rfl)) rfl (by with_unfolding_all rfl) ?_
  show am_Wp _ 102 85 _ _ _ _
  refine wp_step (e := (.bipush 80, 2, 0, 0, 0)) (q := (87, [.ref 18], [.int 80, .ref 18], hO nS xs lg_23)) (am_cF_to (by with_unfolding_all rfl)) rfl (by with_unfolding_all rfl) ?_
  show am_Wp _ 102 87 _ _ _ _
  refine wp_step (e := (.newarray .int, 2, 0, 0, 0)) (q := (89, [.ref 18], [.ref 29, .ref 18], hO nS xs lg_24)) (am_cF_to (by with_unfolding_all rfl)) rfl (by with_unfolding_all rfl) ?_
  show am_Wp _ 102 89 _ _ _ _
  refine wp_step (e := (.putfield 42, 3, 9, 17, 132)) (q := (92, [.ref 18], [], hO nS xs lg_25)) (am_cF_to (by with_unfolding_all rfl)) rfl (by with_unfolding_all rfl) ?_
  show am_Wp _ 102 92 _ _ _ _
  exact (eq_retV2 (e := (.return_, 1, 0, 0, 0)) (by with_unfolding_all rfl) rfl (by with_unfolding_all rfl)).mpr k
set_option maxRecDepth 20000 in
-- LarkExchange$Law.<init> of [.ref 31]
theorem in_2 {d nS : Nat} {xs : Nat → Int32} {Q : Option Value → am_H → Prop} (k : Q none (hO nS xs lg_43)) : am_Wp (d + 1) 19 0 [.ref 31] [] (hO nS xs lg_29) Q := by
  refine wp_step (e := (.aload_n 0, 1, 0, 0, 0)) (q := (1, [.ref 31], [.ref 31], hO nS xs lg_29)) (am_cF_to (by with_unfolding_all rfl)) rfl (by with_unfolding_all rfl) ?_
  show am_Wp _ 19 1 _ _ _ _
  refine wp_obj (e := (.invokespecial 3, 3, 5, 0, 82)) (am_cF_to (by with_unfolding_all rfl)) rfl rfl (by decide) ?_
  show am_Wp _ 19 4 _ _ _ _
  refine wp_step (e := (.aload_n 0, 1, 0, 0, 0)) (q := (5, [.ref 31], [.ref 31], hO nS xs lg_29)) (am_cF_to (by with_unfolding_all rfl)) rfl (by with_unfolding_all rfl) ?_
  show am_Wp _ 19 5 _ _ _ _
  refine wp_step (e := (.bipush 16, 2, 0, 0, 0)) (q := (7, [.ref 31], [.int 16, .ref 31], hO nS xs lg_29)) (am_cF_to (by with_unfolding_all rfl)) rfl (by with_unfolding_all rfl) ?_
  show am_Wp _ 19 7 _ _ _ _
  refine wp_step (e := (.newarray .int, 2, 0, 0, 0)) (q := (9, [.ref 31], [.ref 32, .ref 31], hO nS xs lg_30)) (am_cF_to (by with_unfolding_all rfl)) rfl (by with_unfolding_all rfl) ?_
  show am_Wp _ 19 9 _ _ _ _
  refine wp_step (e := (.putfield 9, 3, 2, 2, 52)) (q := (12, [.ref 31], [], hO nS xs lg_31)) (am_cF_to (by with_unfolding_all rfl)) rfl (by with_unfolding_all rfl) ?_
  show am_Wp _ 19 12 _ _ _ _
  refine wp_step (e := (.aload_n 0, 1, 0, 0, 0)) (q := (13, [.ref 31], [.ref 31], hO nS xs lg_31)) (am_cF_to (by with_unfolding_all rfl)) rfl (by with_unfolding_all rfl) ?_
  show am_Wp _ 19 13 _ _ _ _
  refine wp_step (e := (.bipush 16, 2, 0, 0, 0)) (q := (15, [.ref 31], [.int 16, .ref 31], hO nS xs lg_31)) (am_cF_to (by with_unfolding_all rfl)) rfl (by with_unfolding_all rfl) ?_
  show am_Wp _ 19 15 _ _ _ _
  refine wp_step (e := (.newarray .int, 2, 0, 0, 0)) (q := (17, [.ref 31], [.ref 33, .ref 31], hO nS xs lg_32)) (am_cF_to (by with_unfolding_all rfl)) rfl (by with_unfolding_all rfl) ?_
  show am_Wp _ 19 17 _ _ _ _
  refine wp_step (e := (.putfield 15, 3, 2, 3, 53)) (q := (20, [.ref 31], [], hO nS xs lg_33)) (am_cF_to (by with_unfolding_all rfl)) rfl (by with_unfolding_all rfl) ?_
  show am_Wp _ 19 20 _ _ _ _
  refine wp_step (e := (.aload_n 0, 1, 0, 0, 0)) (q := (21, [.ref 31], [.ref 31], hO nS xs lg_33)) (am_cF_to (by with_unfolding_all rfl)) rfl (by with_unfolding_all rfl) ?_
  show am_Wp _ 19 21 _ _ _ _
  refine wp_step (e := (.bipush 16, 2, 0, 0, 0)) (q := (23, [.ref 31], [.int 16, .ref 31], hO nS xs lg_33)) (am_cF_to (by with_unfolding_all rfl)) rfl (by with_unfolding_all rfl) ?_
  show am_Wp _ 19 23 _ _ _ _
  refine wp_step (e := (.newarray .int, 2, 0, 0, 0)) (q := (25, [.ref 31], [.ref 34, .ref 31], hO nS xs lg_34)) (am_cF_to (by with_unfolding_all rfl)) rfl (by with_unfolding_all rfl) ?_
  show am_Wp _ 19 25 _ _ _ _
  refine wp_step (e := (.putfield 18, 3, 2, 4, 54)) (q := (28, [.ref 31], [], hO nS xs lg_35)) (am_cF_to (by with_unfolding_all rfl)) rfl (by with_unfolding_all rfl) ?_
  show am_Wp _ 19 28 _ _ _ _
  refine wp_step (e := (.aload_n 0, 1, 0, 0, 0)) (q := (29, [.ref 31], [.ref 31], hO nS xs lg_35)) (am_cF_to (by with_unfolding_all rfl)) rfl (by with_unfolding_all rfl) ?_
  show am_Wp _ 19 29 _ _ _ _
  refine wp_step (e := (.bipush 16, 2, 0, 0, 0)) (q := (31, [.ref 31], [.int 16, .ref 31], hO nS xs lg_35)) (am_cF_to (by with_unfolding_all rfl)) rfl (by with_unfolding_all rfl) ?_
  show am_Wp _ 19 31 _ _ _ _
  refine wp_step (e := (.newarray .int, 2, 0, 0, 0)) (q := (33, [.ref 31], [.ref 35, .ref 31], hO nS xs lg_36)) (am_cF_to (by with_unfolding_all rfl)) rfl (by with_unfolding_all rfl) ?_
  show am_Wp _ 19 33 _ _ _ _
  refine wp_step (e := (.putfield 21, 3, 2, 5, 55)) (q := (36, [.ref 31], [], hO nS xs lg_37)) (am_cF_to (by with_unfolding_all rfl)) rfl (by with_unfolding_all rfl) ?_
  show am_Wp _ 19 36 _ _ _ _
  refine wp_step (e := (.aload_n 0, 1, 0, 0, 0)) (q := (37, [.ref 31], [.ref 31], hO nS xs lg_37)) (am_cF_to (by with_unfolding_all rfl)) rfl (by with_unfolding_all rfl) ?_
  show am_Wp _ 19 37 _ _ _ _
  refine wp_step (e := (.sipush 400, 3, 0, 0, 0)) (q := (40, [.ref 31], [.int 400, .ref 31], hO nS xs lg_37)) (am_cF_to (by with_unfolding_all rfl)) rfl (by with_unfolding_all rfl) ?_
  show am_Wp _ 19 40 _ _ _ _
  refine wp_step (e := (.newarray .int, 2, 0, 0, 0)) (q := (42, [.ref 31], [.ref 36, .ref 31], hO nS xs lg_38)) (am_cF_to (by with_unfolding_all rfl)) rfl (by with_unfolding_all rfl) ?_
  show am_Wp _ 19 42 _ _ _ _
  refine wp_step (e := (.putfield 24, 3, 2, 6, 56)) (q := (45, [.ref 31], [], hO nS xs lg_39)) (am_cF_to (by with_unfolding_all rfl)) rfl (by with_unfolding_all rfl) ?_
  show am_Wp _ 19 45 _ _ _ _
  refine wp_step (e := (.aload_n 0, 1, 0, 0, 0)) (q := (46, [.ref 31], [.ref 31], hO nS xs lg_39)) (am_cF_to (by with_unfolding_all rfl)) rfl (by with_unfolding_all rfl) ?_
  show am_Wp _ 19 46 _ _ _ _
  refine wp_step (e := (.bipush 9, 2, 0, 0, 0)) (q := (48, [.ref 31], [.int 9, .ref 31], hO nS xs lg_39)) (am_cF_to (by with_unfolding_all rfl)) rfl (by with_unfolding_all rfl) ?_
  show am_Wp _ 19 48 _ _ _ _
  refine wp_step (e := (.newarray .int, 2, 0, 0, 0)) (q := (50, [.ref 31], [.ref 37, .ref 31], hO nS xs lg_40)) (am_cF_to (by with_unfolding_all rfl)) rfl (by with_unfolding_all rfl) ?_
  show am_Wp _ 19 50 _ _ _ _
  refine wp_step (e := (.putfield 27, 3, 2, 7, 57)) (q := (53, [.ref 31], [], hO nS xs lg_41)) (am_cF_to (by with_unfolding_all rfl)) rfl (by with_unfolding_all rfl) ?_
  show am_Wp _ 19 53 _ _ _ _
  refine wp_step (e := (.aload_n 0, 1, 0, 0, 0)) (q := (54, [.ref 31], [.ref 31], hO nS xs lg_41)) (am_cF_to (by with_unfolding_all rfl)) rfl (by with_unfolding_all rfl) ?_
  show am_Wp _ 19 54 _ _ _ _
  refine wp_step (e := (.bipush 32, 2, 0, 0, 0)) (q := (56, [.ref 31], [.int 32, .ref 31], hO nS xs lg_41)) (am_cF_to (by with_unfolding_all rfl)) rfl (by with_unfolding_all rfl) ?_
  show am_Wp _ 19 56 _ _ _ _
  refine wp_step (e := (.newarray .int, 2, 0, 0, 0)) (q := (58, [.ref 31], [.ref 38, .ref 31], hO nS xs lg_42)) (am_cF_to (by with_unfolding_all rfl)) rfl (by with_unfolding_all rfl) ?_
  show am_Wp _ 19 58 _ _ _ _
  refine wp_step (e := (.putfield 30, 3, 2, 8, 58)) (q := (61, [.ref 31], [], hO nS xs lg_43)) (am_cF_to (by with_unfolding_all rfl)) rfl (by with_unfolding_all rfl) ?_
  show am_Wp _ 19 61 _ _ _ _
  exact (eq_retV2 (e := (.return_, 1, 0, 0, 0)) (by with_unfolding_all rfl) rfl (by with_unfolding_all rfl)).mpr k
set_option maxRecDepth 20000 in
-- LarkExchange$Lines.<init> of [.ref 39]
theorem in_3 {d nS : Nat} {xs : Nat → Int32} {Q : Option Value → am_H → Prop} (k : Q none (hO nS xs lg_47)) : am_Wp (d + 1) 32 0 [.ref 39] [] (hO nS xs lg_45) Q := by
  refine wp_step (e := (.aload_n 0, 1, 0, 0, 0)) (q := (1, [.ref 39], [.ref 39], hO nS xs lg_45)) (am_cF_to (by with_unfolding_all rfl)) rfl (by with_unfolding_all rfl) ?_
  show am_Wp _ 32 1 _ _ _ _
  refine wp_obj (e := (.invokespecial 3, 3, 5, 0, 94)) (am_cF_to (by with_unfolding_all rfl)) rfl rfl (by decide) ?_
  show am_Wp _ 32 4 _ _ _ _
  refine wp_step (e := (.aload_n 0, 1, 0, 0, 0)) (q := (5, [.ref 39], [.ref 39], hO nS xs lg_45)) (am_cF_to (by with_unfolding_all rfl)) rfl (by with_unfolding_all rfl) ?_
  show am_Wp _ 32 5 _ _ _ _
  refine wp_step (e := (.bipush 80, 2, 0, 0, 0)) (q := (7, [.ref 39], [.int 80, .ref 39], hO nS xs lg_45)) (am_cF_to (by with_unfolding_all rfl)) rfl (by with_unfolding_all rfl) ?_
  show am_Wp _ 32 7 _ _ _ _
  refine wp_step (e := (.newarray .int, 2, 0, 0, 0)) (q := (9, [.ref 39], [.ref 40, .ref 39], hO nS xs lg_46)) (am_cF_to (by with_unfolding_all rfl)) rfl (by with_unfolding_all rfl) ?_
  show am_Wp _ 32 9 _ _ _ _
  refine wp_step (e := (.putfield 9, 3, 3, 0, 69)) (q := (12, [.ref 39], [], hO nS xs lg_47)) (am_cF_to (by with_unfolding_all rfl)) rfl (by with_unfolding_all rfl) ?_
  show am_Wp _ 32 12 _ _ _ _
  exact (eq_retV2 (e := (.return_, 1, 0, 0, 0)) (by with_unfolding_all rfl) rfl (by with_unfolding_all rfl)).mpr k
set_option maxRecDepth 20000 in
-- LarkExchange$Lines.<init> of [.ref 41]
theorem in_4 {d nS : Nat} {xs : Nat → Int32} {Q : Option Value → am_H → Prop} (k : Q none (hO nS xs lg_51)) : am_Wp (d + 1) 32 0 [.ref 41] [] (hO nS xs lg_49) Q := by
  refine wp_step (e := (.aload_n 0, 1, 0, 0, 0)) (q := (1, [.ref 41], [.ref 41], hO nS xs lg_49)) (am_cF_to (by with_unfolding_all rfl)) rfl (by with_unfolding_all rfl) ?_
  show am_Wp _ 32 1 _ _ _ _
  refine wp_obj (e := (.invokespecial 3, 3, 5, 0, 94)) (am_cF_to (by with_unfolding_all rfl)) rfl rfl (by decide) ?_
  show am_Wp _ 32 4 _ _ _ _
  refine wp_step (e := (.aload_n 0, 1, 0, 0, 0)) (q := (5, [.ref 41], [.ref 41], hO nS xs lg_49)) (am_cF_to (by with_unfolding_all rfl)) rfl (by with_unfolding_all rfl) ?_
  show am_Wp _ 32 5 _ _ _ _
  refine wp_step (e := (.bipush 80, 2, 0, 0, 0)) (q := (7, [.ref 41], [.int 80, .ref 41], hO nS xs lg_49)) (am_cF_to (by with_unfolding_all rfl)) rfl (by with_unfolding_all rfl) ?_
  show am_Wp _ 32 7 _ _ _ _
  refine wp_step (e := (.newarray .int, 2, 0, 0, 0)) (q := (9, [.ref 41], [.ref 42, .ref 41], hO nS xs lg_50)) (am_cF_to (by with_unfolding_all rfl)) rfl (by with_unfolding_all rfl) ?_
  show am_Wp _ 32 9 _ _ _ _
  refine wp_step (e := (.putfield 9, 3, 3, 0, 69)) (q := (12, [.ref 41], [], hO nS xs lg_51)) (am_cF_to (by with_unfolding_all rfl)) rfl (by with_unfolding_all rfl) ?_
  show am_Wp _ 32 12 _ _ _ _
  exact (eq_retV2 (e := (.return_, 1, 0, 0, 0)) (by with_unfolding_all rfl) rfl (by with_unfolding_all rfl)).mpr k
set_option maxRecDepth 20000 in
-- LarkExchange$Lines.<init> of [.ref 43]
theorem in_5 {d nS : Nat} {xs : Nat → Int32} {Q : Option Value → am_H → Prop} (k : Q none (hO nS xs lg_55)) : am_Wp (d + 1) 32 0 [.ref 43] [] (hO nS xs lg_53) Q := by
  refine wp_step (e := (.aload_n 0, 1, 0, 0, 0)) (q := (1, [.ref 43], [.ref 43], hO nS xs lg_53)) (am_cF_to (by with_unfolding_all rfl)) rfl (by with_unfolding_all rfl) ?_
  show am_Wp _ 32 1 _ _ _ _
  refine wp_obj (e := (.invokespecial 3, 3, 5, 0, 94)) (am_cF_to (by with_unfolding_all rfl)) rfl rfl (by decide) ?_
  show am_Wp _ 32 4 _ _ _ _
  refine wp_step (e := (.aload_n 0, 1, 0, 0, 0)) (q := (5, [.ref 43], [.ref 43], hO nS xs lg_53)) (am_cF_to (by with_unfolding_all rfl)) rfl (by with_unfolding_all rfl) ?_
  show am_Wp _ 32 5 _ _ _ _
  refine wp_step (e := (.bipush 80, 2, 0, 0, 0)) (q := (7, [.ref 43], [.int 80, .ref 43], hO nS xs lg_53)) (am_cF_to (by with_unfolding_all rfl)) rfl (by with_unfolding_all rfl) ?_
  show am_Wp _ 32 7 _ _ _ _
  refine wp_step (e := (.newarray .int, 2, 0, 0, 0)) (q := (9, [.ref 43], [.ref 44, .ref 43], hO nS xs lg_54)) (am_cF_to (by with_unfolding_all rfl)) rfl (by with_unfolding_all rfl) ?_
  show am_Wp _ 32 9 _ _ _ _
  refine wp_step (e := (.putfield 9, 3, 3, 0, 69)) (q := (12, [.ref 43], [], hO nS xs lg_55)) (am_cF_to (by with_unfolding_all rfl)) rfl (by with_unfolding_all rfl) ?_
  show am_Wp _ 32 12 _ _ _ _
  exact (eq_retV2 (e := (.return_, 1, 0, 0, 0)) (by with_unfolding_all rfl) rfl (by with_unfolding_all rfl)).mpr k
set_option maxRecDepth 20000 in
-- LarkExchange$Row.<init> of [.ref 45]
theorem in_6 {d nS : Nat} {xs : Nat → Int32} {Q : Option Value → am_H → Prop} (k : Q none (hO nS xs lg_65)) : am_Wp (d + 1) 64 0 [.ref 45] [] (hO nS xs lg_57) Q := by
  refine wp_step (e := (.aload_n 0, 1, 0, 0, 0)) (q := (1, [.ref 45], [.ref 45], hO nS xs lg_57)) (am_cF_to (by with_unfolding_all rfl)) rfl (by with_unfolding_all rfl) ?_
  show am_Wp _ 64 1 _ _ _ _
  refine wp_obj (e := (.invokespecial 3, 3, 5, 0, 133)) (am_cF_to (by with_unfolding_all rfl)) rfl rfl (by decide) ?_
  show am_Wp _ 64 4 _ _ _ _
  refine wp_step (e := (.aload_n 0, 1, 0, 0, 0)) (q := (5, [.ref 45], [.ref 45], hO nS xs lg_57)) (am_cF_to (by with_unfolding_all rfl)) rfl (by with_unfolding_all rfl) ?_
  show am_Wp _ 64 5 _ _ _ _
  refine wp_step (e := (.bipush 14, 2, 0, 0, 0)) (q := (7, [.ref 45], [.int 14, .ref 45], hO nS xs lg_57)) (am_cF_to (by with_unfolding_all rfl)) rfl (by with_unfolding_all rfl) ?_
  show am_Wp _ 64 7 _ _ _ _
  refine wp_step (e := (.newarray .int, 2, 0, 0, 0)) (q := (9, [.ref 45], [.ref 46, .ref 45], hO nS xs lg_58)) (am_cF_to (by with_unfolding_all rfl)) rfl (by with_unfolding_all rfl) ?_
  show am_Wp _ 64 9 _ _ _ _
  refine wp_step (e := (.putfield 11, 3, 6, 0, 89)) (q := (12, [.ref 45], [], hO nS xs lg_59)) (am_cF_to (by with_unfolding_all rfl)) rfl (by with_unfolding_all rfl) ?_
  show am_Wp _ 64 12 _ _ _ _
  refine wp_step (e := (.aload_n 0, 1, 0, 0, 0)) (q := (13, [.ref 45], [.ref 45], hO nS xs lg_59)) (am_cF_to (by with_unfolding_all rfl)) rfl (by with_unfolding_all rfl) ?_
  show am_Wp _ 64 13 _ _ _ _
  refine wp_step (e := (.bipush 14, 2, 0, 0, 0)) (q := (15, [.ref 45], [.int 14, .ref 45], hO nS xs lg_59)) (am_cF_to (by with_unfolding_all rfl)) rfl (by with_unfolding_all rfl) ?_
  show am_Wp _ 64 15 _ _ _ _
  refine wp_step (e := (.newarray .int, 2, 0, 0, 0)) (q := (17, [.ref 45], [.ref 47, .ref 45], hO nS xs lg_60)) (am_cF_to (by with_unfolding_all rfl)) rfl (by with_unfolding_all rfl) ?_
  show am_Wp _ 64 17 _ _ _ _
  refine wp_step (e := (.putfield 15, 3, 6, 2, 90)) (q := (20, [.ref 45], [], hO nS xs lg_61)) (am_cF_to (by with_unfolding_all rfl)) rfl (by with_unfolding_all rfl) ?_
  show am_Wp _ 64 20 _ _ _ _
  refine wp_step (e := (.aload_n 0, 1, 0, 0, 0)) (q := (21, [.ref 45], [.ref 45], hO nS xs lg_61)) (am_cF_to (by with_unfolding_all rfl)) rfl (by with_unfolding_all rfl) ?_
  show am_Wp _ 64 21 _ _ _ _
  refine wp_step (e := (.bipush 6, 2, 0, 0, 0)) (q := (23, [.ref 45], [.int 6, .ref 45], hO nS xs lg_61)) (am_cF_to (by with_unfolding_all rfl)) rfl (by with_unfolding_all rfl) ?_
  show am_Wp _ 64 23 _ _ _ _
  refine wp_step (e := (.newarray .int, 2, 0, 0, 0)) (q := (25, [.ref 45], [.ref 48, .ref 45], hO nS xs lg_62)) (am_cF_to (by with_unfolding_all rfl)) rfl (by with_unfolding_all rfl) ?_
  show am_Wp _ 64 25 _ _ _ _
  refine wp_step (e := (.putfield 18, 3, 6, 3, 91)) (q := (28, [.ref 45], [], hO nS xs lg_63)) (am_cF_to (by with_unfolding_all rfl)) rfl (by with_unfolding_all rfl) ?_
  show am_Wp _ 64 28 _ _ _ _
  refine wp_step (e := (.aload_n 0, 1, 0, 0, 0)) (q := (29, [.ref 45], [.ref 45], hO nS xs lg_63)) (am_cF_to (by with_unfolding_all rfl)) rfl (by with_unfolding_all rfl) ?_
  show am_Wp _ 64 29 _ _ _ _
  refine wp_step (e := (.bipush 6, 2, 0, 0, 0)) (q := (31, [.ref 45], [.int 6, .ref 45], hO nS xs lg_63)) (am_cF_to (by with_unfolding_all rfl)) rfl (by with_unfolding_all rfl) ?_
  show am_Wp _ 64 31 _ _ _ _
  refine wp_step (e := (.newarray .int, 2, 0, 0, 0)) (q := (33, [.ref 45], [.ref 49, .ref 45], hO nS xs lg_64)) (am_cF_to (by with_unfolding_all rfl)) rfl (by with_unfolding_all rfl) ?_
  show am_Wp _ 64 33 _ _ _ _
  refine wp_step (e := (.putfield 21, 3, 6, 4, 92)) (q := (36, [.ref 45], [], hO nS xs lg_65)) (am_cF_to (by with_unfolding_all rfl)) rfl (by with_unfolding_all rfl) ?_
  show am_Wp _ 64 36 _ _ _ _
  exact (eq_retV2 (e := (.return_, 1, 0, 0, 0)) (by with_unfolding_all rfl) rfl (by with_unfolding_all rfl)).mpr k
set_option maxRecDepth 20000 in
-- LarkExchange$Heath.<init> of [.ref 50]
theorem in_7 {d nS : Nat} {xs : Nat → Int32} {Q : Option Value → am_H → Prop} (k : Q none (hO nS xs lg_73)) : am_Wp (d + 1) 11 0 [.ref 50] [] (hO nS xs lg_67) Q := by
  refine wp_step (e := (.aload_n 0, 1, 0, 0, 0)) (q := (1, [.ref 50], [.ref 50], hO nS xs lg_67)) (am_cF_to (by with_unfolding_all rfl)) rfl (by with_unfolding_all rfl) ?_
  show am_Wp _ 11 1 _ _ _ _
  refine wp_obj (e := (.invokespecial 3, 3, 5, 0, 75)) (am_cF_to (by with_unfolding_all rfl)) rfl rfl (by decide) ?_
  show am_Wp _ 11 4 _ _ _ _
  refine wp_step (e := (.aload_n 0, 1, 0, 0, 0)) (q := (5, [.ref 50], [.ref 50], hO nS xs lg_67)) (am_cF_to (by with_unfolding_all rfl)) rfl (by with_unfolding_all rfl) ?_
  show am_Wp _ 11 5 _ _ _ _
  refine wp_step (e := (.bipush 28, 2, 0, 0, 0)) (q := (7, [.ref 50], [.int 28, .ref 50], hO nS xs lg_67)) (am_cF_to (by with_unfolding_all rfl)) rfl (by with_unfolding_all rfl) ?_
  show am_Wp _ 11 7 _ _ _ _
  refine wp_step (e := (.newarray .int, 2, 0, 0, 0)) (q := (9, [.ref 50], [.ref 51, .ref 50], hO nS xs lg_68)) (am_cF_to (by with_unfolding_all rfl)) rfl (by with_unfolding_all rfl) ?_
  show am_Wp _ 11 9 _ _ _ _
  refine wp_step (e := (.putfield 11, 3, 1, 0, 48)) (q := (12, [.ref 50], [], hO nS xs lg_69)) (am_cF_to (by with_unfolding_all rfl)) rfl (by with_unfolding_all rfl) ?_
  show am_Wp _ 11 12 _ _ _ _
  refine wp_step (e := (.aload_n 0, 1, 0, 0, 0)) (q := (13, [.ref 50], [.ref 50], hO nS xs lg_69)) (am_cF_to (by with_unfolding_all rfl)) rfl (by with_unfolding_all rfl) ?_
  show am_Wp _ 11 13 _ _ _ _
  refine wp_step (e := (.bipush 8, 2, 0, 0, 0)) (q := (15, [.ref 50], [.int 8, .ref 50], hO nS xs lg_69)) (am_cF_to (by with_unfolding_all rfl)) rfl (by with_unfolding_all rfl) ?_
  show am_Wp _ 11 15 _ _ _ _
  refine wp_step (e := (.newarray .int, 2, 0, 0, 0)) (q := (17, [.ref 50], [.ref 52, .ref 50], hO nS xs lg_70)) (am_cF_to (by with_unfolding_all rfl)) rfl (by with_unfolding_all rfl) ?_
  show am_Wp _ 11 17 _ _ _ _
  refine wp_step (e := (.putfield 15, 3, 1, 2, 49)) (q := (20, [.ref 50], [], hO nS xs lg_71)) (am_cF_to (by with_unfolding_all rfl)) rfl (by with_unfolding_all rfl) ?_
  show am_Wp _ 11 20 _ _ _ _
  refine wp_step (e := (.aload_n 0, 1, 0, 0, 0)) (q := (21, [.ref 50], [.ref 50], hO nS xs lg_71)) (am_cF_to (by with_unfolding_all rfl)) rfl (by with_unfolding_all rfl) ?_
  show am_Wp _ 11 21 _ _ _ _
  refine wp_step (e := (.bipush 64, 2, 0, 0, 0)) (q := (23, [.ref 50], [.int 64, .ref 50], hO nS xs lg_71)) (am_cF_to (by with_unfolding_all rfl)) rfl (by with_unfolding_all rfl) ?_
  show am_Wp _ 11 23 _ _ _ _
  refine wp_step (e := (.newarray .int, 2, 0, 0, 0)) (q := (25, [.ref 50], [.ref 53, .ref 50], hO nS xs lg_72)) (am_cF_to (by with_unfolding_all rfl)) rfl (by with_unfolding_all rfl) ?_
  show am_Wp _ 11 25 _ _ _ _
  refine wp_step (e := (.putfield 18, 3, 1, 3, 50)) (q := (28, [.ref 50], [], hO nS xs lg_73)) (am_cF_to (by with_unfolding_all rfl)) rfl (by with_unfolding_all rfl) ?_
  show am_Wp _ 11 28 _ _ _ _
  exact (eq_retV2 (e := (.return_, 1, 0, 0, 0)) (by with_unfolding_all rfl) rfl (by with_unfolding_all rfl)).mpr k
set_option maxRecDepth 20000 in
-- LarkExchange$Bench.<init> of [.ref 54]
theorem in_8 {d nS : Nat} {xs : Nat → Int32} {Q : Option Value → am_H → Prop} (k : Q none (hO nS xs lg_83)) : am_Wp (d + 1) 1 0 [.ref 54] [] (hO nS xs lg_75) Q := by
  refine wp_step (e := (.aload_n 0, 1, 0, 0, 0)) (q := (1, [.ref 54], [.ref 54], hO nS xs lg_75)) (am_cF_to (by with_unfolding_all rfl)) rfl (by with_unfolding_all rfl) ?_
  show am_Wp _ 1 1 _ _ _ _
  refine wp_obj (e := (.invokespecial 3, 3, 5, 0, 67)) (am_cF_to (by with_unfolding_all rfl)) rfl rfl (by decide) ?_
  show am_Wp _ 1 4 _ _ _ _
  refine wp_step (e := (.aload_n 0, 1, 0, 0, 0)) (q := (5, [.ref 54], [.ref 54], hO nS xs lg_75)) (am_cF_to (by with_unfolding_all rfl)) rfl (by with_unfolding_all rfl) ?_
  show am_Wp _ 1 5 _ _ _ _
  refine wp_step (e := (.bipush 16, 2, 0, 0, 0)) (q := (7, [.ref 54], [.int 16, .ref 54], hO nS xs lg_75)) (am_cF_to (by with_unfolding_all rfl)) rfl (by with_unfolding_all rfl) ?_
  show am_Wp _ 1 7 _ _ _ _
  refine wp_step (e := (.newarray .int, 2, 0, 0, 0)) (q := (9, [.ref 54], [.ref 55, .ref 54], hO nS xs lg_76)) (am_cF_to (by with_unfolding_all rfl)) rfl (by with_unfolding_all rfl) ?_
  show am_Wp _ 1 9 _ _ _ _
  refine wp_step (e := (.putfield 11, 3, 0, 0, 41)) (q := (12, [.ref 54], [], hO nS xs lg_77)) (am_cF_to (by with_unfolding_all rfl)) rfl (by with_unfolding_all rfl) ?_
  show am_Wp _ 1 12 _ _ _ _
  refine wp_step (e := (.aload_n 0, 1, 0, 0, 0)) (q := (13, [.ref 54], [.ref 54], hO nS xs lg_77)) (am_cF_to (by with_unfolding_all rfl)) rfl (by with_unfolding_all rfl) ?_
  show am_Wp _ 1 13 _ _ _ _
  refine wp_step (e := (.bipush 8, 2, 0, 0, 0)) (q := (15, [.ref 54], [.int 8, .ref 54], hO nS xs lg_77)) (am_cF_to (by with_unfolding_all rfl)) rfl (by with_unfolding_all rfl) ?_
  show am_Wp _ 1 15 _ _ _ _
  refine wp_step (e := (.newarray .int, 2, 0, 0, 0)) (q := (17, [.ref 54], [.ref 56, .ref 54], hO nS xs lg_78)) (am_cF_to (by with_unfolding_all rfl)) rfl (by with_unfolding_all rfl) ?_
  show am_Wp _ 1 17 _ _ _ _
  refine wp_step (e := (.putfield 15, 3, 0, 1, 42)) (q := (20, [.ref 54], [], hO nS xs lg_79)) (am_cF_to (by with_unfolding_all rfl)) rfl (by with_unfolding_all rfl) ?_
  show am_Wp _ 1 20 _ _ _ _
  refine wp_step (e := (.aload_n 0, 1, 0, 0, 0)) (q := (21, [.ref 54], [.ref 54], hO nS xs lg_79)) (am_cF_to (by with_unfolding_all rfl)) rfl (by with_unfolding_all rfl) ?_
  show am_Wp _ 1 21 _ _ _ _
  refine wp_step (e := (.bipush 8, 2, 0, 0, 0)) (q := (23, [.ref 54], [.int 8, .ref 54], hO nS xs lg_79)) (am_cF_to (by with_unfolding_all rfl)) rfl (by with_unfolding_all rfl) ?_
  show am_Wp _ 1 23 _ _ _ _
  refine wp_step (e := (.newarray .int, 2, 0, 0, 0)) (q := (25, [.ref 54], [.ref 57, .ref 54], hO nS xs lg_80)) (am_cF_to (by with_unfolding_all rfl)) rfl (by with_unfolding_all rfl) ?_
  show am_Wp _ 1 25 _ _ _ _
  refine wp_step (e := (.putfield 18, 3, 0, 2, 43)) (q := (28, [.ref 54], [], hO nS xs lg_81)) (am_cF_to (by with_unfolding_all rfl)) rfl (by with_unfolding_all rfl) ?_
  show am_Wp _ 1 28 _ _ _ _
  refine wp_step (e := (.aload_n 0, 1, 0, 0, 0)) (q := (29, [.ref 54], [.ref 54], hO nS xs lg_81)) (am_cF_to (by with_unfolding_all rfl)) rfl (by with_unfolding_all rfl) ?_
  show am_Wp _ 1 29 _ _ _ _
  refine wp_step (e := (.bipush 8, 2, 0, 0, 0)) (q := (31, [.ref 54], [.int 8, .ref 54], hO nS xs lg_81)) (am_cF_to (by with_unfolding_all rfl)) rfl (by with_unfolding_all rfl) ?_
  show am_Wp _ 1 31 _ _ _ _
  refine wp_step (e := (.newarray .int, 2, 0, 0, 0)) (q := (33, [.ref 54], [.ref 58, .ref 54], hO nS xs lg_82)) (am_cF_to (by with_unfolding_all rfl)) rfl (by with_unfolding_all rfl) ?_
  show am_Wp _ 1 33 _ _ _ _
  refine wp_step (e := (.putfield 21, 3, 0, 4, 44)) (q := (36, [.ref 54], [], hO nS xs lg_83)) (am_cF_to (by with_unfolding_all rfl)) rfl (by with_unfolding_all rfl) ?_
  show am_Wp _ 1 36 _ _ _ _
  exact (eq_retV2 (e := (.return_, 1, 0, 0, 0)) (by with_unfolding_all rfl) rfl (by with_unfolding_all rfl)).mpr k
set_option maxRecDepth 20000 in
-- LarkExchange$Town.<init> of [.ref 17]
theorem in_9 {d nS : Nat} {xs : Nat → Int32} {Q : Option Value → am_H → Prop} (k : Q none (hO nS xs lg_84)) : am_Wp (d + 2) 91 0 [.ref 17] [] (hO nS xs lg_2) Q := by
  refine wp_step (e := (.aload_n 0, 1, 0, 0, 0)) (q := (1, [.ref 17], [.ref 17], hO nS xs lg_2)) (am_cF_to (by with_unfolding_all rfl)) rfl (by with_unfolding_all rfl) ?_
  show am_Wp _ 91 1 _ _ _ _
  refine wp_obj (e := (.invokespecial 3, 3, 5, 0, 149)) (am_cF_to (by with_unfolding_all rfl)) rfl rfl (by decide) ?_
  show am_Wp _ 91 4 _ _ _ _
  refine wp_step (e := (.aload_n 0, 1, 0, 0, 0)) (q := (5, [.ref 17], [.ref 17], hO nS xs lg_2)) (am_cF_to (by with_unfolding_all rfl)) rfl (by with_unfolding_all rfl) ?_
  show am_Wp _ 91 5 _ _ _ _
  refine wp_step (e := (.new 9, 3, 9, 0, 8)) (q := (8, [.ref 17], [.ref 18, .ref 17], hO nS xs lg_3)) (am_cF_to (by with_unfolding_all rfl)) rfl (by with_unfolding_all rfl) ?_
  show am_Wp _ 91 8 _ _ _ _
  refine wp_step (e := (.dup, 1, 0, 0, 0)) (q := (9, [.ref 17], [.ref 18, .ref 18, .ref 17], hO nS xs lg_3)) (am_cF_to (by with_unfolding_all rfl)) rfl (by with_unfolding_all rfl) ?_
  show am_Wp _ 91 9 _ _ _ _
  refine (eq_call2 (e := (.invokespecial 11, 3, 4, 102, 150)) (as := [.ref 18]) (r := [.ref 18, .ref 17]) (n := 1) (m := 1) (by with_unfolding_all rfl) rfl (by decide) (by with_unfolding_all rfl) (by decide) (by with_unfolding_all rfl) ⟨fun z => absurd z (by decide), fun _ => rfl⟩).mpr ?_
  refine in_1 (d := d) ?_
  show am_Wp _ 91 12 _ _ _ _
  refine wp_step (e := (.putfield 12, 3, 8, 0, 99)) (q := (15, [.ref 17], [], hO nS xs lg_26)) (am_cF_to (by with_unfolding_all rfl)) rfl (by with_unfolding_all rfl) ?_
  show am_Wp _ 91 15 _ _ _ _
  refine wp_step (e := (.aload_n 0, 1, 0, 0, 0)) (q := (16, [.ref 17], [.ref 17], hO nS xs lg_26)) (am_cF_to (by with_unfolding_all rfl)) rfl (by with_unfolding_all rfl) ?_
  show am_Wp _ 91 16 _ _ _ _
  refine wp_step (e := (.sipush 600, 3, 0, 0, 0)) (q := (19, [.ref 17], [.int 600, .ref 17], hO nS xs lg_26)) (am_cF_to (by with_unfolding_all rfl)) rfl (by with_unfolding_all rfl) ?_
  show am_Wp _ 91 19 _ _ _ _
  refine wp_step (e := (.newarray .int, 2, 0, 0, 0)) (q := (21, [.ref 17], [.ref 30, .ref 17], hO nS xs lg_27)) (am_cF_to (by with_unfolding_all rfl)) rfl (by with_unfolding_all rfl) ?_
  show am_Wp _ 91 21 _ _ _ _
  refine wp_step (e := (.putfield 18, 3, 8, 1, 100)) (q := (24, [.ref 17], [], hO nS xs lg_28)) (am_cF_to (by with_unfolding_all rfl)) rfl (by with_unfolding_all rfl) ?_
  show am_Wp _ 91 24 _ _ _ _
  refine wp_step (e := (.aload_n 0, 1, 0, 0, 0)) (q := (25, [.ref 17], [.ref 17], hO nS xs lg_28)) (am_cF_to (by with_unfolding_all rfl)) rfl (by with_unfolding_all rfl) ?_
  show am_Wp _ 91 25 _ _ _ _
  refine wp_step (e := (.new 22, 3, 2, 0, 9)) (q := (28, [.ref 17], [.ref 31, .ref 17], hO nS xs lg_29)) (am_cF_to (by with_unfolding_all rfl)) rfl (by with_unfolding_all rfl) ?_
  show am_Wp _ 91 28 _ _ _ _
  refine wp_step (e := (.dup, 1, 0, 0, 0)) (q := (29, [.ref 17], [.ref 31, .ref 31, .ref 17], hO nS xs lg_29)) (am_cF_to (by with_unfolding_all rfl)) rfl (by with_unfolding_all rfl) ?_
  show am_Wp _ 91 29 _ _ _ _
  refine (eq_call2 (e := (.invokespecial 24, 3, 4, 19, 151)) (as := [.ref 31]) (r := [.ref 31, .ref 17]) (n := 1) (m := 1) (by with_unfolding_all rfl) rfl (by decide) (by with_unfolding_all rfl) (by decide) (by with_unfolding_all rfl) ⟨fun z => absurd z (by decide), fun _ => rfl⟩).mpr ?_
  refine in_2 (d := d) ?_
  show am_Wp _ 91 32 _ _ _ _
  refine wp_step (e := (.putfield 25, 3, 8, 2, 101)) (q := (35, [.ref 17], [], hO nS xs lg_44)) (am_cF_to (by with_unfolding_all rfl)) rfl (by with_unfolding_all rfl) ?_
  show am_Wp _ 91 35 _ _ _ _
  refine wp_step (e := (.aload_n 0, 1, 0, 0, 0)) (q := (36, [.ref 17], [.ref 17], hO nS xs lg_44)) (am_cF_to (by with_unfolding_all rfl)) rfl (by with_unfolding_all rfl) ?_
  show am_Wp _ 91 36 _ _ _ _
  refine wp_step (e := (.new 29, 3, 3, 0, 10)) (q := (39, [.ref 17], [.ref 39, .ref 17], hO nS xs lg_45)) (am_cF_to (by with_unfolding_all rfl)) rfl (by with_unfolding_all rfl) ?_
  show am_Wp _ 91 39 _ _ _ _
  refine wp_step (e := (.dup, 1, 0, 0, 0)) (q := (40, [.ref 17], [.ref 39, .ref 39, .ref 17], hO nS xs lg_45)) (am_cF_to (by with_unfolding_all rfl)) rfl (by with_unfolding_all rfl) ?_
  show am_Wp _ 91 40 _ _ _ _
  refine (eq_call2 (e := (.invokespecial 31, 3, 4, 32, 152)) (as := [.ref 39]) (r := [.ref 39, .ref 17]) (n := 1) (m := 1) (by with_unfolding_all rfl) rfl (by decide) (by with_unfolding_all rfl) (by decide) (by with_unfolding_all rfl) ⟨fun z => absurd z (by decide), fun _ => rfl⟩).mpr ?_
  refine in_3 (d := d) ?_
  show am_Wp _ 91 43 _ _ _ _
  refine wp_step (e := (.putfield 32, 3, 8, 3, 102)) (q := (46, [.ref 17], [], hO nS xs lg_48)) (am_cF_to (by with_unfolding_all rfl)) rfl (by with_unfolding_all rfl) ?_
  show am_Wp _ 91 46 _ _ _ _
  refine wp_step (e := (.aload_n 0, 1, 0, 0, 0)) (q := (47, [.ref 17], [.ref 17], hO nS xs lg_48)) (am_cF_to (by with_unfolding_all rfl)) rfl (by with_unfolding_all rfl) ?_
  show am_Wp _ 91 47 _ _ _ _
  refine wp_step (e := (.new 29, 3, 3, 0, 10)) (q := (50, [.ref 17], [.ref 41, .ref 17], hO nS xs lg_49)) (am_cF_to (by with_unfolding_all rfl)) rfl (by with_unfolding_all rfl) ?_
  show am_Wp _ 91 50 _ _ _ _
  refine wp_step (e := (.dup, 1, 0, 0, 0)) (q := (51, [.ref 17], [.ref 41, .ref 41, .ref 17], hO nS xs lg_49)) (am_cF_to (by with_unfolding_all rfl)) rfl (by with_unfolding_all rfl) ?_
  show am_Wp _ 91 51 _ _ _ _
  refine (eq_call2 (e := (.invokespecial 31, 3, 4, 32, 152)) (as := [.ref 41]) (r := [.ref 41, .ref 17]) (n := 1) (m := 1) (by with_unfolding_all rfl) rfl (by decide) (by with_unfolding_all rfl) (by decide) (by with_unfolding_all rfl) ⟨fun z => absurd z (by decide), fun _ => rfl⟩).mpr ?_
  refine in_4 (d := d) ?_
  show am_Wp _ 91 54 _ _ _ _
  refine wp_step (e := (.putfield 36, 3, 8, 4, 103)) (q := (57, [.ref 17], [], hO nS xs lg_52)) (am_cF_to (by with_unfolding_all rfl)) rfl (by with_unfolding_all rfl) ?_
  show am_Wp _ 91 57 _ _ _ _
  refine wp_step (e := (.aload_n 0, 1, 0, 0, 0)) (q := (58, [.ref 17], [.ref 17], hO nS xs lg_52)) (am_cF_to (by with_unfolding_all rfl)) rfl (by with_unfolding_all rfl) ?_
  show am_Wp _ 91 58 _ _ _ _
  refine wp_step (e := (.new 29, 3, 3, 0, 10)) (q := (61, [.ref 17], [.ref 43, .ref 17], hO nS xs lg_53)) (am_cF_to (by with_unfolding_all rfl)) rfl (by with_unfolding_all rfl) ?_
  show am_Wp _ 91 61 _ _ _ _
  refine wp_step (e := (.dup, 1, 0, 0, 0)) (q := (62, [.ref 17], [.ref 43, .ref 43, .ref 17], hO nS xs lg_53)) (am_cF_to (by with_unfolding_all rfl)) rfl (by with_unfolding_all rfl) ?_
  show am_Wp _ 91 62 _ _ _ _
  refine (eq_call2 (e := (.invokespecial 31, 3, 4, 32, 152)) (as := [.ref 43]) (r := [.ref 43, .ref 17]) (n := 1) (m := 1) (by with_unfolding_all rfl) rfl (by decide) (by with_unfolding_all rfl) (by decide) (by with_unfolding_all rfl) ⟨fun z => absurd z (by decide), fun _ => rfl⟩).mpr ?_
  refine in_5 (d := d) ?_
  show am_Wp _ 91 65 _ _ _ _
  refine wp_step (e := (.putfield 39, 3, 8, 5, 104)) (q := (68, [.ref 17], [], hO nS xs lg_56)) (am_cF_to (by with_unfolding_all rfl)) rfl (by with_unfolding_all rfl) ?_
  show am_Wp _ 91 68 _ _ _ _
  refine wp_step (e := (.aload_n 0, 1, 0, 0, 0)) (q := (69, [.ref 17], [.ref 17], hO nS xs lg_56)) (am_cF_to (by with_unfolding_all rfl)) rfl (by with_unfolding_all rfl) ?_
  show am_Wp _ 91 69 _ _ _ _
  refine wp_step (e := (.new 42, 3, 6, 0, 11)) (q := (72, [.ref 17], [.ref 45, .ref 17], hO nS xs lg_57)) (am_cF_to (by with_unfolding_all rfl)) rfl (by with_unfolding_all rfl) ?_
  show am_Wp _ 91 72 _ _ _ _
  refine wp_step (e := (.dup, 1, 0, 0, 0)) (q := (73, [.ref 17], [.ref 45, .ref 45, .ref 17], hO nS xs lg_57)) (am_cF_to (by with_unfolding_all rfl)) rfl (by with_unfolding_all rfl) ?_
  show am_Wp _ 91 73 _ _ _ _
  refine (eq_call2 (e := (.invokespecial 44, 3, 4, 64, 153)) (as := [.ref 45]) (r := [.ref 45, .ref 17]) (n := 1) (m := 1) (by with_unfolding_all rfl) rfl (by decide) (by with_unfolding_all rfl) (by decide) (by with_unfolding_all rfl) ⟨fun z => absurd z (by decide), fun _ => rfl⟩).mpr ?_
  refine in_6 (d := d) ?_
  show am_Wp _ 91 76 _ _ _ _
  refine wp_step (e := (.putfield 45, 3, 8, 6, 105)) (q := (79, [.ref 17], [], hO nS xs lg_66)) (am_cF_to (by with_unfolding_all rfl)) rfl (by with_unfolding_all rfl) ?_
  show am_Wp _ 91 79 _ _ _ _
  refine wp_step (e := (.aload_n 0, 1, 0, 0, 0)) (q := (80, [.ref 17], [.ref 17], hO nS xs lg_66)) (am_cF_to (by with_unfolding_all rfl)) rfl (by with_unfolding_all rfl) ?_
  show am_Wp _ 91 80 _ _ _ _
  refine wp_step (e := (.new 49, 3, 1, 0, 12)) (q := (83, [.ref 17], [.ref 50, .ref 17], hO nS xs lg_67)) (am_cF_to (by with_unfolding_all rfl)) rfl (by with_unfolding_all rfl) ?_
  show am_Wp _ 91 83 _ _ _ _
  refine wp_step (e := (.dup, 1, 0, 0, 0)) (q := (84, [.ref 17], [.ref 50, .ref 50, .ref 17], hO nS xs lg_67)) (am_cF_to (by with_unfolding_all rfl)) rfl (by with_unfolding_all rfl) ?_
  show am_Wp _ 91 84 _ _ _ _
  refine (eq_call2 (e := (.invokespecial 51, 3, 4, 11, 154)) (as := [.ref 50]) (r := [.ref 50, .ref 17]) (n := 1) (m := 1) (by with_unfolding_all rfl) rfl (by decide) (by with_unfolding_all rfl) (by decide) (by with_unfolding_all rfl) ⟨fun z => absurd z (by decide), fun _ => rfl⟩).mpr ?_
  refine in_7 (d := d) ?_
  show am_Wp _ 91 87 _ _ _ _
  refine wp_step (e := (.putfield 52, 3, 8, 7, 106)) (q := (90, [.ref 17], [], hO nS xs lg_74)) (am_cF_to (by with_unfolding_all rfl)) rfl (by with_unfolding_all rfl) ?_
  show am_Wp _ 91 90 _ _ _ _
  refine wp_step (e := (.aload_n 0, 1, 0, 0, 0)) (q := (91, [.ref 17], [.ref 17], hO nS xs lg_74)) (am_cF_to (by with_unfolding_all rfl)) rfl (by with_unfolding_all rfl) ?_
  show am_Wp _ 91 91 _ _ _ _
  refine wp_step (e := (.new 56, 3, 0, 0, 13)) (q := (94, [.ref 17], [.ref 54, .ref 17], hO nS xs lg_75)) (am_cF_to (by with_unfolding_all rfl)) rfl (by with_unfolding_all rfl) ?_
  show am_Wp _ 91 94 _ _ _ _
  refine wp_step (e := (.dup, 1, 0, 0, 0)) (q := (95, [.ref 17], [.ref 54, .ref 54, .ref 17], hO nS xs lg_75)) (am_cF_to (by with_unfolding_all rfl)) rfl (by with_unfolding_all rfl) ?_
  show am_Wp _ 91 95 _ _ _ _
  refine (eq_call2 (e := (.invokespecial 58, 3, 4, 1, 155)) (as := [.ref 54]) (r := [.ref 54, .ref 17]) (n := 1) (m := 1) (by with_unfolding_all rfl) rfl (by decide) (by with_unfolding_all rfl) (by decide) (by with_unfolding_all rfl) ⟨fun z => absurd z (by decide), fun _ => rfl⟩).mpr ?_
  refine in_8 (d := d) ?_
  show am_Wp _ 91 98 _ _ _ _
  refine wp_step (e := (.putfield 59, 3, 8, 8, 107)) (q := (101, [.ref 17], [], hO nS xs lg_84)) (am_cF_to (by with_unfolding_all rfl)) rfl (by with_unfolding_all rfl) ?_
  show am_Wp _ 91 101 _ _ _ _
  exact (eq_retV2 (e := (.return_, 1, 0, 0, 0)) (by with_unfolding_all rfl) rfl (by with_unfolding_all rfl)).mpr k
set_option maxRecDepth 20000 in
-- LarkExchange$World.<init> of [.ref 60]
theorem in_10 {d nS : Nat} {xs : Nat → Int32} {Q : Option Value → am_H → Prop} (k : Q none (hO nS xs lg_109)) : am_Wp (d + 1) 102 0 [.ref 60] [] (hO nS xs lg_87) Q := by
  refine wp_step (e := (.aload_n 0, 1, 0, 0, 0)) (q := (1, [.ref 60], [.ref 60], hO nS xs lg_87)) (am_cF_to (by with_unfolding_all rfl)) rfl (by with_unfolding_all rfl) ?_
  show am_Wp _ 102 1 _ _ _ _
  refine wp_obj (e := (.invokespecial 3, 3, 5, 0, 185)) (am_cF_to (by with_unfolding_all rfl)) rfl rfl (by decide) ?_
  show am_Wp _ 102 4 _ _ _ _
  refine wp_step (e := (.aload_n 0, 1, 0, 0, 0)) (q := (5, [.ref 60], [.ref 60], hO nS xs lg_87)) (am_cF_to (by with_unfolding_all rfl)) rfl (by with_unfolding_all rfl) ?_
  show am_Wp _ 102 5 _ _ _ _
  refine wp_step (e := (.bipush 6, 2, 0, 0, 0)) (q := (7, [.ref 60], [.int 6, .ref 60], hO nS xs lg_87)) (am_cF_to (by with_unfolding_all rfl)) rfl (by with_unfolding_all rfl) ?_
  show am_Wp _ 102 7 _ _ _ _
  refine wp_step (e := (.newarray .int, 2, 0, 0, 0)) (q := (9, [.ref 60], [.ref 61, .ref 60], hO nS xs lg_88)) (am_cF_to (by with_unfolding_all rfl)) rfl (by with_unfolding_all rfl) ?_
  show am_Wp _ 102 9 _ _ _ _
  refine wp_step (e := (.putfield 9, 3, 9, 7, 122)) (q := (12, [.ref 60], [], hO nS xs lg_89)) (am_cF_to (by with_unfolding_all rfl)) rfl (by with_unfolding_all rfl) ?_
  show am_Wp _ 102 12 _ _ _ _
  refine wp_step (e := (.aload_n 0, 1, 0, 0, 0)) (q := (13, [.ref 60], [.ref 60], hO nS xs lg_89)) (am_cF_to (by with_unfolding_all rfl)) rfl (by with_unfolding_all rfl) ?_
  show am_Wp _ 102 13 _ _ _ _
  refine wp_step (e := (.bipush 6, 2, 0, 0, 0)) (q := (15, [.ref 60], [.int 6, .ref 60], hO nS xs lg_89)) (am_cF_to (by with_unfolding_all rfl)) rfl (by with_unfolding_all rfl) ?_
  show am_Wp _ 102 15 _ _ _ _
  refine wp_step (e := (.newarray .int, 2, 0, 0, 0)) (q := (17, [.ref 60], [.ref 62, .ref 60], hO nS xs lg_90)) (am_cF_to (by with_unfolding_all rfl)) rfl (by with_unfolding_all rfl) ?_
  show am_Wp _ 102 17 _ _ _ _
  refine wp_step (e := (.putfield 15, 3, 9, 8, 123)) (q := (20, [.ref 60], [], hO nS xs lg_91)) (am_cF_to (by with_unfolding_all rfl)) rfl (by with_unfolding_all rfl) ?_
  show am_Wp _ 102 20 _ _ _ _
  refine wp_step (e := (.aload_n 0, 1, 0, 0, 0)) (q := (21, [.ref 60], [.ref 60], hO nS xs lg_91)) (am_cF_to (by with_unfolding_all rfl)) rfl (by with_unfolding_all rfl) ?_
  show am_Wp _ 102 21 _ _ _ _
  refine wp_step (e := (.bipush 6, 2, 0, 0, 0)) (q := (23, [.ref 60], [.int 6, .ref 60], hO nS xs lg_91)) (am_cF_to (by with_unfolding_all rfl)) rfl (by with_unfolding_all rfl) ?_
  show am_Wp _ 102 23 _ _ _ _
  refine wp_step (e := (.newarray .int, 2, 0, 0, 0)) (q := (25, [.ref 60], [.ref 63, .ref 60], hO nS xs lg_92)) (am_cF_to (by with_unfolding_all rfl)) rfl (by with_unfolding_all rfl) ?_
  show am_Wp _ 102 25 _ _ _ _
  refine wp_step (e := (.putfield 18, 3, 9, 9, 124)) (q := (28, [.ref 60], [], hO nS xs lg_93)) (am_cF_to (by with_unfolding_all rfl)) rfl (by with_unfolding_all rfl) ?_
  show am_Wp _ 102 28 _ _ _ _
  refine wp_step (e := (.aload_n 0, 1, 0, 0, 0)) (q := (29, [.ref 60], [.ref 60], hO nS xs lg_93)) (am_cF_to (by with_unfolding_all rfl)) rfl (by with_unfolding_all rfl) ?_
  show am_Wp _ 102 29 _ _ _ _
  refine wp_step (e := (.bipush 6, 2, 0, 0, 0)) (q := (31, [.ref 60], [.int 6, .ref 60], hO nS xs lg_93)) (am_cF_to (by with_unfolding_all rfl)) rfl (by with_unfolding_all rfl) ?_
  show am_Wp _ 102 31 _ _ _ _
  refine wp_step (e := (.newarray .int, 2, 0, 0, 0)) (q := (33, [.ref 60], [.ref 64, .ref 60], hO nS xs lg_94)) (am_cF_to (by with_unfolding_all rfl)) rfl (by with_unfolding_all rfl) ?_
  show am_Wp _ 102 33 _ _ _ _
  refine wp_step (e := (.putfield 21, 3, 9, 10, 125)) (q := (36, [.ref 60], [], hO nS xs lg_95)) (am_cF_to (by with_unfolding_all rfl)) rfl (by with_unfolding_all rfl) ?_
  show am_Wp _ 102 36 _ _ _ _
  refine wp_step (e := (.aload_n 0, 1, 0, 0, 0)) (q := (37, [.ref 60], [.ref 60], hO nS xs lg_95)) (am_cF_to (by with_unfolding_all rfl)) rfl (by with_unfolding_all rfl) ?_
  show am_Wp _ 102 37 _ _ _ _
  refine wp_step (e := (.bipush 6, 2, 0, 0, 0)) (q := (39, [.ref 60], [.int 6, .ref 60], hO nS xs lg_95)) (am_cF_to (by with_unfolding_all rfl)) rfl (by with_unfolding_all rfl) ?_
  show am_Wp _ 102 39 _ _ _ _
  refine wp_step (e := (.newarray .int, 2, 0, 0, 0)) (q := (41, [.ref 60], [.ref 65, .ref 60], hO nS xs lg_96)) (am_cF_to (by with_unfolding_all rfl)) rfl (by with_unfolding_all rfl) ?_
  show am_Wp _ 102 41 _ _ _ _
  refine wp_step (e := (.putfield 24, 3, 9, 11, 126)) (q := (44, [.ref 60], [], hO nS xs lg_97)) (am_cF_to (by with_unfolding_all rfl)) rfl (by with_unfolding_all rfl) ?_
  show am_Wp _ 102 44 _ _ _ _
  refine wp_step (e := (.aload_n 0, 1, 0, 0, 0)) (q := (45, [.ref 60], [.ref 60], hO nS xs lg_97)) (am_cF_to (by with_unfolding_all rfl)) rfl (by with_unfolding_all rfl) ?_
  show am_Wp _ 102 45 _ _ _ _
  refine wp_step (e := (.bipush 8, 2, 0, 0, 0)) (q := (47, [.ref 60], [.int 8, .ref 60], hO nS xs lg_97)) (am_cF_to (by with_unfolding_all rfl)) rfl (by with_unfolding_all rfl) ?_
  show am_Wp _ 102 47 _ _ _ _
  refine wp_step (e := (.newarray .int, 2, 0, 0, 0)) (q := (49, [.ref 60], [.ref 66, .ref 60], hO nS xs lg_98)) (am_cF_to (by with_unfolding_all rfl)) rfl (by with_unfolding_all rfl) ?_
  show am_Wp _ 102 49 _ _ _ _
  refine wp_step (e := (.putfield 27, 3, 9, 12, 127)) (q := (52, [.ref 60], [], hO nS xs lg_99)) (am_cF_to (by with_unfolding_all rfl)) rfl (by with_unfolding_all rfl) ?_
  show am_Wp _ 102 52 _ _ _ _
  refine wp_step (e := (.aload_n 0, 1, 0, 0, 0)) (q := (53, [.ref 60], [.ref 60], hO nS xs lg_99)) (am_cF_to (by with_unfolding_all rfl)) rfl (by with_unfolding_all rfl) ?_
  show am_Wp _ 102 53 _ _ _ _
  refine wp_step (e := (.bipush 8, 2, 0, 0, 0)) (q := (55, [.ref 60], [.int 8, .ref 60], hO nS xs lg_99)) (am_cF_to (by with_unfolding_all rfl)) rfl (by with_unfolding_all rfl) ?_
  show am_Wp _ 102 55 _ _ _ _
  refine wp_step (e := (.newarray .int, 2, 0, 0, 0)) (q := (57, [.ref 60], [.ref 67, .ref 60], hO nS xs lg_100)) (am_cF_to (by with_unfolding_all rfl)) rfl (by with_unfolding_all rfl) ?_
  show am_Wp _ 102 57 _ _ _ _
  refine wp_step (e := (.putfield 30, 3, 9, 13, 128)) (q := (60, [.ref 60], [], hO nS xs lg_101)) (am_cF_to (by with_unfolding_all rfl)) rfl (by with_unfolding_all rfl) ?_
  show am_Wp _ 102 60 _ _ _ _
  refine wp_step (e := (.aload_n 0, 1, 0, 0, 0)) (q := (61, [.ref 60], [.ref 60], hO nS xs lg_101)) (am_cF_to (by with_unfolding_all rfl)) rfl (by with_unfolding_all rfl) ?_
  show am_Wp _ 102 61 _ _ _ _
  refine wp_step (e := (.bipush 8, 2, 0, 0, 0)) (q := (63, [.ref 60], [.int 8, .ref 60], hO nS xs lg_101)) (am_cF_to (by with_unfolding_all rfl)) rfl (by with_unfolding_all rfl) ?_
  show am_Wp _ 102 63 _ _ _ _
  refine wp_step (e := (.newarray .int, 2, 0, 0, 0)) (q := (65, [.ref 60], [.ref 68, .ref 60], hO nS xs lg_102)) (am_cF_to (by with_unfolding_all rfl)) rfl (by with_unfolding_all rfl) ?_
  show am_Wp _ 102 65 _ _ _ _
  refine wp_step (e := (.putfield 33, 3, 9, 14, 129)) (q := (68, [.ref 60], [], hO nS xs lg_103)) (am_cF_to (by with_unfolding_all rfl)) rfl (by with_unfolding_all rfl) ?_
  show am_Wp _ 102 68 _ _ _ _
  refine wp_step (e := (.aload_n 0, 1, 0, 0, 0)) (q := (69, [.ref 60], [.ref 60], hO nS xs lg_103)) (am_cF_to (by with_unfolding_all rfl)) rfl (by with_unfolding_all rfl) ?_
  show am_Wp _ 102 69 _ _ _ _
  refine wp_step (e := (.bipush 10, 2, 0, 0, 0)) (q := (71, [.ref 60], [.int 10, .ref 60], hO nS xs lg_103)) (am_cF_to (by with_unfolding_all rfl)) rfl (by with_unfolding_all rfl) ?_
  show am_Wp _ 102 71 _ _ _ _
  refine wp_step (e := (.newarray .int, 2, 0, 0, 0)) (q := (73, [.ref 60], [.ref 69, .ref 60], hO nS xs lg_104)) (am_cF_to (by with_unfolding_all rfl)) rfl (by with_unfolding_all rfl) ?_
  show am_Wp _ 102 73 _ _ _ _
  refine wp_step (e := (.putfield 36, 3, 9, 15, 130)) (q := (76, [.ref 60], [], hO nS xs lg_105)) (am_cF_to (by with_unfolding_all rfl)) rfl (by with_unfolding_all rfl) ?_
  show am_Wp _ 102 76 _ _ _ _
  refine wp_step (e := (.aload_n 0, 1, 0, 0, 0)) (q := (77, [.ref 60], [.ref 60], hO nS xs lg_105)) (am_cF_to (by with_unfolding_all rfl)) rfl (by with_unfolding_all rfl) ?_
  show am_Wp _ 102 77 _ _ _ _
  refine wp_step (e := (.bipush 10, 2, 0, 0, 0)) (q := (79, [.ref 60], [.int 10, .ref 60], hO nS xs lg_105)) (am_cF_to (by with_unfolding_all rfl)) rfl (by with_unfolding_all rfl) ?_
  show am_Wp _ 102 79 _ _ _ _
  refine wp_step (e := (.newarray .int, 2, 0, 0, 0)) (q := (81, [.ref 60], [.ref 70, .ref 60], hO nS xs lg_106)) (am_cF_to (by with_unfolding_all rfl)) rfl (by with_unfolding_all rfl) ?_
  show am_Wp _ 102 81 _ _ _ _
  refine wp_step (e := (.putfield 39, 3, 9, 16, 131)) (q := (84, [.ref 60], [], hO nS xs lg_107)) (am_cF_to (by with_unfolding_all rfl)) rfl (by with_unfolding_all rfl) ?_
  show am_Wp _ 102 84 _ _ _ _
  refine wp_step (e := (.aload_n 0, 1, 0, 0, 0)) (q := (85, [.ref 60], [.ref 60], hO nS xs lg_107)) (am_cF_to (by with_unfolding_all rfl)) rfl (by with_unfolding_all rfl) ?_
  show am_Wp _ 102 85 _ _ _ _
  refine wp_step (e := (.bipush 80, 2, 0, 0, 0)) (q := (87, [.ref 60], [.int 80, .ref 60], hO nS xs lg_107)) (am_cF_to (by with_unfolding_all rfl)) rfl (by with_unfolding_all rfl) ?_
  show am_Wp _ 102 87 _ _ _ _
  refine wp_step (e := (.newarray .int, 2, 0, 0, 0)) (q := (89, [.ref 60], [.ref 71, .ref 60], hO nS xs lg_108)) (am_cF_to (by with_unfolding_all rfl)) rfl (by with_unfolding_all rfl) ?_
  show am_Wp _ 102 89 _ _ _ _
  refine wp_step (e := (.putfield 42, 3, 9, 17, 132)) (q := (92, [.ref 60], [], hO nS xs lg_109)) (am_cF_to (by with_unfolding_all rfl)) rfl (by with_unfolding_all rfl) ?_
  show am_Wp _ 102 92 _ _ _ _
  exact (eq_retV2 (e := (.return_, 1, 0, 0, 0)) (by with_unfolding_all rfl) rfl (by with_unfolding_all rfl)).mpr k
set_option maxRecDepth 20000 in
-- LarkExchange$Law.<init> of [.ref 73]
theorem in_11 {d nS : Nat} {xs : Nat → Int32} {Q : Option Value → am_H → Prop} (k : Q none (hO nS xs lg_127)) : am_Wp (d + 1) 19 0 [.ref 73] [] (hO nS xs lg_113) Q := by
  refine wp_step (e := (.aload_n 0, 1, 0, 0, 0)) (q := (1, [.ref 73], [.ref 73], hO nS xs lg_113)) (am_cF_to (by with_unfolding_all rfl)) rfl (by with_unfolding_all rfl) ?_
  show am_Wp _ 19 1 _ _ _ _
  refine wp_obj (e := (.invokespecial 3, 3, 5, 0, 82)) (am_cF_to (by with_unfolding_all rfl)) rfl rfl (by decide) ?_
  show am_Wp _ 19 4 _ _ _ _
  refine wp_step (e := (.aload_n 0, 1, 0, 0, 0)) (q := (5, [.ref 73], [.ref 73], hO nS xs lg_113)) (am_cF_to (by with_unfolding_all rfl)) rfl (by with_unfolding_all rfl) ?_
  show am_Wp _ 19 5 _ _ _ _
  refine wp_step (e := (.bipush 16, 2, 0, 0, 0)) (q := (7, [.ref 73], [.int 16, .ref 73], hO nS xs lg_113)) (am_cF_to (by with_unfolding_all rfl)) rfl (by with_unfolding_all rfl) ?_
  show am_Wp _ 19 7 _ _ _ _
  refine wp_step (e := (.newarray .int, 2, 0, 0, 0)) (q := (9, [.ref 73], [.ref 74, .ref 73], hO nS xs lg_114)) (am_cF_to (by with_unfolding_all rfl)) rfl (by with_unfolding_all rfl) ?_
  show am_Wp _ 19 9 _ _ _ _
  refine wp_step (e := (.putfield 9, 3, 2, 2, 52)) (q := (12, [.ref 73], [], hO nS xs lg_115)) (am_cF_to (by with_unfolding_all rfl)) rfl (by with_unfolding_all rfl) ?_
  show am_Wp _ 19 12 _ _ _ _
  refine wp_step (e := (.aload_n 0, 1, 0, 0, 0)) (q := (13, [.ref 73], [.ref 73], hO nS xs lg_115)) (am_cF_to (by with_unfolding_all rfl)) rfl (by with_unfolding_all rfl) ?_
  show am_Wp _ 19 13 _ _ _ _
  refine wp_step (e := (.bipush 16, 2, 0, 0, 0)) (q := (15, [.ref 73], [.int 16, .ref 73], hO nS xs lg_115)) (am_cF_to (by with_unfolding_all rfl)) rfl (by with_unfolding_all rfl) ?_
  show am_Wp _ 19 15 _ _ _ _
  refine wp_step (e := (.newarray .int, 2, 0, 0, 0)) (q := (17, [.ref 73], [.ref 75, .ref 73], hO nS xs lg_116)) (am_cF_to (by with_unfolding_all rfl)) rfl (by with_unfolding_all rfl) ?_
  show am_Wp _ 19 17 _ _ _ _
  refine wp_step (e := (.putfield 15, 3, 2, 3, 53)) (q := (20, [.ref 73], [], hO nS xs lg_117)) (am_cF_to (by with_unfolding_all rfl)) rfl (by with_unfolding_all rfl) ?_
  show am_Wp _ 19 20 _ _ _ _
  refine wp_step (e := (.aload_n 0, 1, 0, 0, 0)) (q := (21, [.ref 73], [.ref 73], hO nS xs lg_117)) (am_cF_to (by with_unfolding_all rfl)) rfl (by with_unfolding_all rfl) ?_
  show am_Wp _ 19 21 _ _ _ _
  refine wp_step (e := (.bipush 16, 2, 0, 0, 0)) (q := (23, [.ref 73], [.int 16, .ref 73], hO nS xs lg_117)) (am_cF_to (by with_unfolding_all rfl)) rfl (by with_unfolding_all rfl) ?_
  show am_Wp _ 19 23 _ _ _ _
  refine wp_step (e := (.newarray .int, 2, 0, 0, 0)) (q := (25, [.ref 73], [.ref 76, .ref 73], hO nS xs lg_118)) (am_cF_to (by with_unfolding_all rfl)) rfl (by with_unfolding_all rfl) ?_
  show am_Wp _ 19 25 _ _ _ _
  refine wp_step (e := (.putfield 18, 3, 2, 4, 54)) (q := (28, [.ref 73], [], hO nS xs lg_119)) (am_cF_to (by with_unfolding_all rfl)) rfl (by with_unfolding_all rfl) ?_
  show am_Wp _ 19 28 _ _ _ _
  refine wp_step (e := (.aload_n 0, 1, 0, 0, 0)) (q := (29, [.ref 73], [.ref 73], hO nS xs lg_119)) (am_cF_to (by with_unfolding_all rfl)) rfl (by with_unfolding_all rfl) ?_
  show am_Wp _ 19 29 _ _ _ _
  refine wp_step (e := (.bipush 16, 2, 0, 0, 0)) (q := (31, [.ref 73], [.int 16, .ref 73], hO nS xs lg_119)) (am_cF_to (by with_unfolding_all rfl)) rfl (by with_unfolding_all rfl) ?_
  show am_Wp _ 19 31 _ _ _ _
  refine wp_step (e := (.newarray .int, 2, 0, 0, 0)) (q := (33, [.ref 73], [.ref 77, .ref 73], hO nS xs lg_120)) (am_cF_to (by with_unfolding_all rfl)) rfl (by with_unfolding_all rfl) ?_
  show am_Wp _ 19 33 _ _ _ _
  refine wp_step (e := (.putfield 21, 3, 2, 5, 55)) (q := (36, [.ref 73], [], hO nS xs lg_121)) (am_cF_to (by with_unfolding_all rfl)) rfl (by with_unfolding_all rfl) ?_
  show am_Wp _ 19 36 _ _ _ _
  refine wp_step (e := (.aload_n 0, 1, 0, 0, 0)) (q := (37, [.ref 73], [.ref 73], hO nS xs lg_121)) (am_cF_to (by with_unfolding_all rfl)) rfl (by with_unfolding_all rfl) ?_
  show am_Wp _ 19 37 _ _ _ _
  refine wp_step (e := (.sipush 400, 3, 0, 0, 0)) (q := (40, [.ref 73], [.int 400, .ref 73], hO nS xs lg_121)) (am_cF_to (by with_unfolding_all rfl)) rfl (by with_unfolding_all rfl) ?_
  show am_Wp _ 19 40 _ _ _ _
  refine wp_step (e := (.newarray .int, 2, 0, 0, 0)) (q := (42, [.ref 73], [.ref 78, .ref 73], hO nS xs lg_122)) (am_cF_to (by with_unfolding_all rfl)) rfl (by with_unfolding_all rfl) ?_
  show am_Wp _ 19 42 _ _ _ _
  refine wp_step (e := (.putfield 24, 3, 2, 6, 56)) (q := (45, [.ref 73], [], hO nS xs lg_123)) (am_cF_to (by with_unfolding_all rfl)) rfl (by with_unfolding_all rfl) ?_
  show am_Wp _ 19 45 _ _ _ _
  refine wp_step (e := (.aload_n 0, 1, 0, 0, 0)) (q := (46, [.ref 73], [.ref 73], hO nS xs lg_123)) (am_cF_to (by with_unfolding_all rfl)) rfl (by with_unfolding_all rfl) ?_
  show am_Wp _ 19 46 _ _ _ _
  refine wp_step (e := (.bipush 9, 2, 0, 0, 0)) (q := (48, [.ref 73], [.int 9, .ref 73], hO nS xs lg_123)) (am_cF_to (by with_unfolding_all rfl)) rfl (by with_unfolding_all rfl) ?_
  show am_Wp _ 19 48 _ _ _ _
  refine wp_step (e := (.newarray .int, 2, 0, 0, 0)) (q := (50, [.ref 73], [.ref 79, .ref 73], hO nS xs lg_124)) (am_cF_to (by with_unfolding_all rfl)) rfl (by with_unfolding_all rfl) ?_
  show am_Wp _ 19 50 _ _ _ _
  refine wp_step (e := (.putfield 27, 3, 2, 7, 57)) (q := (53, [.ref 73], [], hO nS xs lg_125)) (am_cF_to (by with_unfolding_all rfl)) rfl (by with_unfolding_all rfl) ?_
  show am_Wp _ 19 53 _ _ _ _
  refine wp_step (e := (.aload_n 0, 1, 0, 0, 0)) (q := (54, [.ref 73], [.ref 73], hO nS xs lg_125)) (am_cF_to (by with_unfolding_all rfl)) rfl (by with_unfolding_all rfl) ?_
  show am_Wp _ 19 54 _ _ _ _
  refine wp_step (e := (.bipush 32, 2, 0, 0, 0)) (q := (56, [.ref 73], [.int 32, .ref 73], hO nS xs lg_125)) (am_cF_to (by with_unfolding_all rfl)) rfl (by with_unfolding_all rfl) ?_
  show am_Wp _ 19 56 _ _ _ _
  refine wp_step (e := (.newarray .int, 2, 0, 0, 0)) (q := (58, [.ref 73], [.ref 80, .ref 73], hO nS xs lg_126)) (am_cF_to (by with_unfolding_all rfl)) rfl (by with_unfolding_all rfl) ?_
  show am_Wp _ 19 58 _ _ _ _
  refine wp_step (e := (.putfield 30, 3, 2, 8, 58)) (q := (61, [.ref 73], [], hO nS xs lg_127)) (am_cF_to (by with_unfolding_all rfl)) rfl (by with_unfolding_all rfl) ?_
  show am_Wp _ 19 61 _ _ _ _
  exact (eq_retV2 (e := (.return_, 1, 0, 0, 0)) (by with_unfolding_all rfl) rfl (by with_unfolding_all rfl)).mpr k
set_option maxRecDepth 20000 in
-- LarkExchange$Lines.<init> of [.ref 81]
theorem in_12 {d nS : Nat} {xs : Nat → Int32} {Q : Option Value → am_H → Prop} (k : Q none (hO nS xs lg_131)) : am_Wp (d + 1) 32 0 [.ref 81] [] (hO nS xs lg_129) Q := by
  refine wp_step (e := (.aload_n 0, 1, 0, 0, 0)) (q := (1, [.ref 81], [.ref 81], hO nS xs lg_129)) (am_cF_to (by with_unfolding_all rfl)) rfl (by with_unfolding_all rfl) ?_
  show am_Wp _ 32 1 _ _ _ _
  refine wp_obj (e := (.invokespecial 3, 3, 5, 0, 94)) (am_cF_to (by with_unfolding_all rfl)) rfl rfl (by decide) ?_
  show am_Wp _ 32 4 _ _ _ _
  refine wp_step (e := (.aload_n 0, 1, 0, 0, 0)) (q := (5, [.ref 81], [.ref 81], hO nS xs lg_129)) (am_cF_to (by with_unfolding_all rfl)) rfl (by with_unfolding_all rfl) ?_
  show am_Wp _ 32 5 _ _ _ _
  refine wp_step (e := (.bipush 80, 2, 0, 0, 0)) (q := (7, [.ref 81], [.int 80, .ref 81], hO nS xs lg_129)) (am_cF_to (by with_unfolding_all rfl)) rfl (by with_unfolding_all rfl) ?_
  show am_Wp _ 32 7 _ _ _ _
  refine wp_step (e := (.newarray .int, 2, 0, 0, 0)) (q := (9, [.ref 81], [.ref 82, .ref 81], hO nS xs lg_130)) (am_cF_to (by with_unfolding_all rfl)) rfl (by with_unfolding_all rfl) ?_
  show am_Wp _ 32 9 _ _ _ _
  refine wp_step (e := (.putfield 9, 3, 3, 0, 69)) (q := (12, [.ref 81], [], hO nS xs lg_131)) (am_cF_to (by with_unfolding_all rfl)) rfl (by with_unfolding_all rfl) ?_
  show am_Wp _ 32 12 _ _ _ _
  exact (eq_retV2 (e := (.return_, 1, 0, 0, 0)) (by with_unfolding_all rfl) rfl (by with_unfolding_all rfl)).mpr k
set_option maxRecDepth 20000 in
-- LarkExchange$Lines.<init> of [.ref 83]
theorem in_13 {d nS : Nat} {xs : Nat → Int32} {Q : Option Value → am_H → Prop} (k : Q none (hO nS xs lg_135)) : am_Wp (d + 1) 32 0 [.ref 83] [] (hO nS xs lg_133) Q := by
  refine wp_step (e := (.aload_n 0, 1, 0, 0, 0)) (q := (1, [.ref 83], [.ref 83], hO nS xs lg_133)) (am_cF_to (by with_unfolding_all rfl)) rfl (by with_unfolding_all rfl) ?_
  show am_Wp _ 32 1 _ _ _ _
  refine wp_obj (e := (.invokespecial 3, 3, 5, 0, 94)) (am_cF_to (by with_unfolding_all rfl)) rfl rfl (by decide) ?_
  show am_Wp _ 32 4 _ _ _ _
  refine wp_step (e := (.aload_n 0, 1, 0, 0, 0)) (q := (5, [.ref 83], [.ref 83], hO nS xs lg_133)) (am_cF_to (by with_unfolding_all rfl)) rfl (by with_unfolding_all rfl) ?_
  show am_Wp _ 32 5 _ _ _ _
  refine wp_step (e := (.bipush 80, 2, 0, 0, 0)) (q := (7, [.ref 83], [.int 80, .ref 83], hO nS xs lg_133)) (am_cF_to (by with_unfolding_all rfl)) rfl (by with_unfolding_all rfl) ?_
  show am_Wp _ 32 7 _ _ _ _
  refine wp_step (e := (.newarray .int, 2, 0, 0, 0)) (q := (9, [.ref 83], [.ref 84, .ref 83], hO nS xs lg_134)) (am_cF_to (by with_unfolding_all rfl)) rfl (by with_unfolding_all rfl) ?_
  show am_Wp _ 32 9 _ _ _ _
  refine wp_step (e := (.putfield 9, 3, 3, 0, 69)) (q := (12, [.ref 83], [], hO nS xs lg_135)) (am_cF_to (by with_unfolding_all rfl)) rfl (by with_unfolding_all rfl) ?_
  show am_Wp _ 32 12 _ _ _ _
  exact (eq_retV2 (e := (.return_, 1, 0, 0, 0)) (by with_unfolding_all rfl) rfl (by with_unfolding_all rfl)).mpr k
set_option maxRecDepth 20000 in
-- LarkExchange$Lines.<init> of [.ref 85]
theorem in_14 {d nS : Nat} {xs : Nat → Int32} {Q : Option Value → am_H → Prop} (k : Q none (hO nS xs lg_139)) : am_Wp (d + 1) 32 0 [.ref 85] [] (hO nS xs lg_137) Q := by
  refine wp_step (e := (.aload_n 0, 1, 0, 0, 0)) (q := (1, [.ref 85], [.ref 85], hO nS xs lg_137)) (am_cF_to (by with_unfolding_all rfl)) rfl (by with_unfolding_all rfl) ?_
  show am_Wp _ 32 1 _ _ _ _
  refine wp_obj (e := (.invokespecial 3, 3, 5, 0, 94)) (am_cF_to (by with_unfolding_all rfl)) rfl rfl (by decide) ?_
  show am_Wp _ 32 4 _ _ _ _
  refine wp_step (e := (.aload_n 0, 1, 0, 0, 0)) (q := (5, [.ref 85], [.ref 85], hO nS xs lg_137)) (am_cF_to (by with_unfolding_all rfl)) rfl (by with_unfolding_all rfl) ?_
  show am_Wp _ 32 5 _ _ _ _
  refine wp_step (e := (.bipush 80, 2, 0, 0, 0)) (q := (7, [.ref 85], [.int 80, .ref 85], hO nS xs lg_137)) (am_cF_to (by with_unfolding_all rfl)) rfl (by with_unfolding_all rfl) ?_
  show am_Wp _ 32 7 _ _ _ _
  refine wp_step (e := (.newarray .int, 2, 0, 0, 0)) (q := (9, [.ref 85], [.ref 86, .ref 85], hO nS xs lg_138)) (am_cF_to (by with_unfolding_all rfl)) rfl (by with_unfolding_all rfl) ?_
  show am_Wp _ 32 9 _ _ _ _
  refine wp_step (e := (.putfield 9, 3, 3, 0, 69)) (q := (12, [.ref 85], [], hO nS xs lg_139)) (am_cF_to (by with_unfolding_all rfl)) rfl (by with_unfolding_all rfl) ?_
  show am_Wp _ 32 12 _ _ _ _
  exact (eq_retV2 (e := (.return_, 1, 0, 0, 0)) (by with_unfolding_all rfl) rfl (by with_unfolding_all rfl)).mpr k
set_option maxRecDepth 20000 in
-- LarkExchange$Row.<init> of [.ref 87]
theorem in_15 {d nS : Nat} {xs : Nat → Int32} {Q : Option Value → am_H → Prop} (k : Q none (hO nS xs lg_149)) : am_Wp (d + 1) 64 0 [.ref 87] [] (hO nS xs lg_141) Q := by
  refine wp_step (e := (.aload_n 0, 1, 0, 0, 0)) (q := (1, [.ref 87], [.ref 87], hO nS xs lg_141)) (am_cF_to (by with_unfolding_all rfl)) rfl (by with_unfolding_all rfl) ?_
  show am_Wp _ 64 1 _ _ _ _
  refine wp_obj (e := (.invokespecial 3, 3, 5, 0, 133)) (am_cF_to (by with_unfolding_all rfl)) rfl rfl (by decide) ?_
  show am_Wp _ 64 4 _ _ _ _
  refine wp_step (e := (.aload_n 0, 1, 0, 0, 0)) (q := (5, [.ref 87], [.ref 87], hO nS xs lg_141)) (am_cF_to (by with_unfolding_all rfl)) rfl (by with_unfolding_all rfl) ?_
  show am_Wp _ 64 5 _ _ _ _
  refine wp_step (e := (.bipush 14, 2, 0, 0, 0)) (q := (7, [.ref 87], [.int 14, .ref 87], hO nS xs lg_141)) (am_cF_to (by with_unfolding_all rfl)) rfl (by with_unfolding_all rfl) ?_
  show am_Wp _ 64 7 _ _ _ _
  refine wp_step (e := (.newarray .int, 2, 0, 0, 0)) (q := (9, [.ref 87], [.ref 88, .ref 87], hO nS xs lg_142)) (am_cF_to (by with_unfolding_all rfl)) rfl (by with_unfolding_all rfl) ?_
  show am_Wp _ 64 9 _ _ _ _
  refine wp_step (e := (.putfield 11, 3, 6, 0, 89)) (q := (12, [.ref 87], [], hO nS xs lg_143)) (am_cF_to (by with_unfolding_all rfl)) rfl (by with_unfolding_all rfl) ?_
  show am_Wp _ 64 12 _ _ _ _
  refine wp_step (e := (.aload_n 0, 1, 0, 0, 0)) (q := (13, [.ref 87], [.ref 87], hO nS xs lg_143)) (am_cF_to (by with_unfolding_all rfl)) rfl (by with_unfolding_all rfl) ?_
  show am_Wp _ 64 13 _ _ _ _
  refine wp_step (e := (.bipush 14, 2, 0, 0, 0)) (q := (15, [.ref 87], [.int 14, .ref 87], hO nS xs lg_143)) (am_cF_to (by with_unfolding_all rfl)) rfl (by with_unfolding_all rfl) ?_
  show am_Wp _ 64 15 _ _ _ _
  refine wp_step (e := (.newarray .int, 2, 0, 0, 0)) (q := (17, [.ref 87], [.ref 89, .ref 87], hO nS xs lg_144)) (am_cF_to (by with_unfolding_all rfl)) rfl (by with_unfolding_all rfl) ?_
  show am_Wp _ 64 17 _ _ _ _
  refine wp_step (e := (.putfield 15, 3, 6, 2, 90)) (q := (20, [.ref 87], [], hO nS xs lg_145)) (am_cF_to (by with_unfolding_all rfl)) rfl (by with_unfolding_all rfl) ?_
  show am_Wp _ 64 20 _ _ _ _
  refine wp_step (e := (.aload_n 0, 1, 0, 0, 0)) (q := (21, [.ref 87], [.ref 87], hO nS xs lg_145)) (am_cF_to (by with_unfolding_all rfl)) rfl (by with_unfolding_all rfl) ?_
  show am_Wp _ 64 21 _ _ _ _
  refine wp_step (e := (.bipush 6, 2, 0, 0, 0)) (q := (23, [.ref 87], [.int 6, .ref 87], hO nS xs lg_145)) (am_cF_to (by with_unfolding_all rfl)) rfl (by with_unfolding_all rfl) ?_
  show am_Wp _ 64 23 _ _ _ _
  refine wp_step (e := (.newarray .int, 2, 0, 0, 0)) (q := (25, [.ref 87], [.ref 90, .ref 87], hO nS xs lg_146)) (am_cF_to (by with_unfolding_all rfl)) rfl (by with_unfolding_all rfl) ?_
  show am_Wp _ 64 25 _ _ _ _
  refine wp_step (e := (.putfield 18, 3, 6, 3, 91)) (q := (28, [.ref 87], [], hO nS xs lg_147)) (am_cF_to (by with_unfolding_all rfl)) rfl (by with_unfolding_all rfl) ?_
  show am_Wp _ 64 28 _ _ _ _
  refine wp_step (e := (.aload_n 0, 1, 0, 0, 0)) (q := (29, [.ref 87], [.ref 87], hO nS xs lg_147)) (am_cF_to (by with_unfolding_all rfl)) rfl (by with_unfolding_all rfl) ?_
  show am_Wp _ 64 29 _ _ _ _
  refine wp_step (e := (.bipush 6, 2, 0, 0, 0)) (q := (31, [.ref 87], [.int 6, .ref 87], hO nS xs lg_147)) (am_cF_to (by with_unfolding_all rfl)) rfl (by with_unfolding_all rfl) ?_
  show am_Wp _ 64 31 _ _ _ _
  refine wp_step (e := (.newarray .int, 2, 0, 0, 0)) (q := (33, [.ref 87], [.ref 91, .ref 87], hO nS xs lg_148)) (am_cF_to (by with_unfolding_all rfl)) rfl (by with_unfolding_all rfl) ?_
  show am_Wp _ 64 33 _ _ _ _
  refine wp_step (e := (.putfield 21, 3, 6, 4, 92)) (q := (36, [.ref 87], [], hO nS xs lg_149)) (am_cF_to (by with_unfolding_all rfl)) rfl (by with_unfolding_all rfl) ?_
  show am_Wp _ 64 36 _ _ _ _
  exact (eq_retV2 (e := (.return_, 1, 0, 0, 0)) (by with_unfolding_all rfl) rfl (by with_unfolding_all rfl)).mpr k
set_option maxRecDepth 20000 in
-- LarkExchange$Heath.<init> of [.ref 92]
theorem in_16 {d nS : Nat} {xs : Nat → Int32} {Q : Option Value → am_H → Prop} (k : Q none (hO nS xs lg_157)) : am_Wp (d + 1) 11 0 [.ref 92] [] (hO nS xs lg_151) Q := by
  refine wp_step (e := (.aload_n 0, 1, 0, 0, 0)) (q := (1, [.ref 92], [.ref 92], hO nS xs lg_151)) (am_cF_to (by with_unfolding_all rfl)) rfl (by with_unfolding_all rfl) ?_
  show am_Wp _ 11 1 _ _ _ _
  refine wp_obj (e := (.invokespecial 3, 3, 5, 0, 75)) (am_cF_to (by with_unfolding_all rfl)) rfl rfl (by decide) ?_
  show am_Wp _ 11 4 _ _ _ _
  refine wp_step (e := (.aload_n 0, 1, 0, 0, 0)) (q := (5, [.ref 92], [.ref 92], hO nS xs lg_151)) (am_cF_to (by with_unfolding_all rfl)) rfl (by with_unfolding_all rfl) ?_
  show am_Wp _ 11 5 _ _ _ _
  refine wp_step (e := (.bipush 28, 2, 0, 0, 0)) (q := (7, [.ref 92], [.int 28, .ref 92], hO nS xs lg_151)) (am_cF_to (by with_unfolding_all rfl)) rfl (by with_unfolding_all rfl) ?_
  show am_Wp _ 11 7 _ _ _ _
  refine wp_step (e := (.newarray .int, 2, 0, 0, 0)) (q := (9, [.ref 92], [.ref 93, .ref 92], hO nS xs lg_152)) (am_cF_to (by with_unfolding_all rfl)) rfl (by with_unfolding_all rfl) ?_
  show am_Wp _ 11 9 _ _ _ _
  refine wp_step (e := (.putfield 11, 3, 1, 0, 48)) (q := (12, [.ref 92], [], hO nS xs lg_153)) (am_cF_to (by with_unfolding_all rfl)) rfl (by with_unfolding_all rfl) ?_
  show am_Wp _ 11 12 _ _ _ _
  refine wp_step (e := (.aload_n 0, 1, 0, 0, 0)) (q := (13, [.ref 92], [.ref 92], hO nS xs lg_153)) (am_cF_to (by with_unfolding_all rfl)) rfl (by with_unfolding_all rfl) ?_
  show am_Wp _ 11 13 _ _ _ _
  refine wp_step (e := (.bipush 8, 2, 0, 0, 0)) (q := (15, [.ref 92], [.int 8, .ref 92], hO nS xs lg_153)) (am_cF_to (by with_unfolding_all rfl)) rfl (by with_unfolding_all rfl) ?_
  show am_Wp _ 11 15 _ _ _ _
  refine wp_step (e := (.newarray .int, 2, 0, 0, 0)) (q := (17, [.ref 92], [.ref 94, .ref 92], hO nS xs lg_154)) (am_cF_to (by with_unfolding_all rfl)) rfl (by with_unfolding_all rfl) ?_
  show am_Wp _ 11 17 _ _ _ _
  refine wp_step (e := (.putfield 15, 3, 1, 2, 49)) (q := (20, [.ref 92], [], hO nS xs lg_155)) (am_cF_to (by with_unfolding_all rfl)) rfl (by with_unfolding_all rfl) ?_
  show am_Wp _ 11 20 _ _ _ _
  refine wp_step (e := (.aload_n 0, 1, 0, 0, 0)) (q := (21, [.ref 92], [.ref 92], hO nS xs lg_155)) (am_cF_to (by with_unfolding_all rfl)) rfl (by with_unfolding_all rfl) ?_
  show am_Wp _ 11 21 _ _ _ _
  refine wp_step (e := (.bipush 64, 2, 0, 0, 0)) (q := (23, [.ref 92], [.int 64, .ref 92], hO nS xs lg_155)) (am_cF_to (by with_unfolding_all rfl)) rfl (by with_unfolding_all rfl) ?_
  show am_Wp _ 11 23 _ _ _ _
  refine wp_step (e := (.newarray .int, 2, 0, 0, 0)) (q := (25, [.ref 92], [.ref 95, .ref 92], hO nS xs lg_156)) (am_cF_to (by with_unfolding_all rfl)) rfl (by with_unfolding_all rfl) ?_
  show am_Wp _ 11 25 _ _ _ _
  refine wp_step (e := (.putfield 18, 3, 1, 3, 50)) (q := (28, [.ref 92], [], hO nS xs lg_157)) (am_cF_to (by with_unfolding_all rfl)) rfl (by with_unfolding_all rfl) ?_
  show am_Wp _ 11 28 _ _ _ _
  exact (eq_retV2 (e := (.return_, 1, 0, 0, 0)) (by with_unfolding_all rfl) rfl (by with_unfolding_all rfl)).mpr k
set_option maxRecDepth 20000 in
-- LarkExchange$Bench.<init> of [.ref 96]
theorem in_17 {d nS : Nat} {xs : Nat → Int32} {Q : Option Value → am_H → Prop} (k : Q none (hO nS xs lg_167)) : am_Wp (d + 1) 1 0 [.ref 96] [] (hO nS xs lg_159) Q := by
  refine wp_step (e := (.aload_n 0, 1, 0, 0, 0)) (q := (1, [.ref 96], [.ref 96], hO nS xs lg_159)) (am_cF_to (by with_unfolding_all rfl)) rfl (by with_unfolding_all rfl) ?_
  show am_Wp _ 1 1 _ _ _ _
  refine wp_obj (e := (.invokespecial 3, 3, 5, 0, 67)) (am_cF_to (by with_unfolding_all rfl)) rfl rfl (by decide) ?_
  show am_Wp _ 1 4 _ _ _ _
  refine wp_step (e := (.aload_n 0, 1, 0, 0, 0)) (q := (5, [.ref 96], [.ref 96], hO nS xs lg_159)) (am_cF_to (by with_unfolding_all rfl)) rfl (by with_unfolding_all rfl) ?_
  show am_Wp _ 1 5 _ _ _ _
  refine wp_step (e := (.bipush 16, 2, 0, 0, 0)) (q := (7, [.ref 96], [.int 16, .ref 96], hO nS xs lg_159)) (am_cF_to (by with_unfolding_all rfl)) rfl (by with_unfolding_all rfl) ?_
  show am_Wp _ 1 7 _ _ _ _
  refine wp_step (e := (.newarray .int, 2, 0, 0, 0)) (q := (9, [.ref 96], [.ref 97, .ref 96], hO nS xs lg_160)) (am_cF_to (by with_unfolding_all rfl)) rfl (by with_unfolding_all rfl) ?_
  show am_Wp _ 1 9 _ _ _ _
  refine wp_step (e := (.putfield 11, 3, 0, 0, 41)) (q := (12, [.ref 96], [], hO nS xs lg_161)) (am_cF_to (by with_unfolding_all rfl)) rfl (by with_unfolding_all rfl) ?_
  show am_Wp _ 1 12 _ _ _ _
  refine wp_step (e := (.aload_n 0, 1, 0, 0, 0)) (q := (13, [.ref 96], [.ref 96], hO nS xs lg_161)) (am_cF_to (by with_unfolding_all rfl)) rfl (by with_unfolding_all rfl) ?_
  show am_Wp _ 1 13 _ _ _ _
  refine wp_step (e := (.bipush 8, 2, 0, 0, 0)) (q := (15, [.ref 96], [.int 8, .ref 96], hO nS xs lg_161)) (am_cF_to (by with_unfolding_all rfl)) rfl (by with_unfolding_all rfl) ?_
  show am_Wp _ 1 15 _ _ _ _
  refine wp_step (e := (.newarray .int, 2, 0, 0, 0)) (q := (17, [.ref 96], [.ref 98, .ref 96], hO nS xs lg_162)) (am_cF_to (by with_unfolding_all rfl)) rfl (by with_unfolding_all rfl) ?_
  show am_Wp _ 1 17 _ _ _ _
  refine wp_step (e := (.putfield 15, 3, 0, 1, 42)) (q := (20, [.ref 96], [], hO nS xs lg_163)) (am_cF_to (by with_unfolding_all rfl)) rfl (by with_unfolding_all rfl) ?_
  show am_Wp _ 1 20 _ _ _ _
  refine wp_step (e := (.aload_n 0, 1, 0, 0, 0)) (q := (21, [.ref 96], [.ref 96], hO nS xs lg_163)) (am_cF_to (by with_unfolding_all rfl)) rfl (by with_unfolding_all rfl) ?_
  show am_Wp _ 1 21 _ _ _ _
  refine wp_step (e := (.bipush 8, 2, 0, 0, 0)) (q := (23, [.ref 96], [.int 8, .ref 96], hO nS xs lg_163)) (am_cF_to (by with_unfolding_all rfl)) rfl (by with_unfolding_all rfl) ?_
  show am_Wp _ 1 23 _ _ _ _
  refine wp_step (e := (.newarray .int, 2, 0, 0, 0)) (q := (25, [.ref 96], [.ref 99, .ref 96], hO nS xs lg_164)) (am_cF_to (by with_unfolding_all rfl)) rfl (by with_unfolding_all rfl) ?_
  show am_Wp _ 1 25 _ _ _ _
  refine wp_step (e := (.putfield 18, 3, 0, 2, 43)) (q := (28, [.ref 96], [], hO nS xs lg_165)) (am_cF_to (by with_unfolding_all rfl)) rfl (by with_unfolding_all rfl) ?_
  show am_Wp _ 1 28 _ _ _ _
  refine wp_step (e := (.aload_n 0, 1, 0, 0, 0)) (q := (29, [.ref 96], [.ref 96], hO nS xs lg_165)) (am_cF_to (by with_unfolding_all rfl)) rfl (by with_unfolding_all rfl) ?_
  show am_Wp _ 1 29 _ _ _ _
  refine wp_step (e := (.bipush 8, 2, 0, 0, 0)) (q := (31, [.ref 96], [.int 8, .ref 96], hO nS xs lg_165)) (am_cF_to (by with_unfolding_all rfl)) rfl (by with_unfolding_all rfl) ?_
  show am_Wp _ 1 31 _ _ _ _
  refine wp_step (e := (.newarray .int, 2, 0, 0, 0)) (q := (33, [.ref 96], [.ref 100, .ref 96], hO nS xs lg_166)) (am_cF_to (by with_unfolding_all rfl)) rfl (by with_unfolding_all rfl) ?_
  show am_Wp _ 1 33 _ _ _ _
  refine wp_step (e := (.putfield 21, 3, 0, 4, 44)) (q := (36, [.ref 96], [], hO nS xs lg_167)) (am_cF_to (by with_unfolding_all rfl)) rfl (by with_unfolding_all rfl) ?_
  show am_Wp _ 1 36 _ _ _ _
  exact (eq_retV2 (e := (.return_, 1, 0, 0, 0)) (by with_unfolding_all rfl) rfl (by with_unfolding_all rfl)).mpr k
set_option maxRecDepth 20000 in
-- LarkExchange$Town.<init> of [.ref 59]
theorem in_18 {d nS : Nat} {xs : Nat → Int32} {Q : Option Value → am_H → Prop} (k : Q none (hO nS xs lg_168)) : am_Wp (d + 2) 91 0 [.ref 59] [] (hO nS xs lg_86) Q := by
  refine wp_step (e := (.aload_n 0, 1, 0, 0, 0)) (q := (1, [.ref 59], [.ref 59], hO nS xs lg_86)) (am_cF_to (by with_unfolding_all rfl)) rfl (by with_unfolding_all rfl) ?_
  show am_Wp _ 91 1 _ _ _ _
  refine wp_obj (e := (.invokespecial 3, 3, 5, 0, 149)) (am_cF_to (by with_unfolding_all rfl)) rfl rfl (by decide) ?_
  show am_Wp _ 91 4 _ _ _ _
  refine wp_step (e := (.aload_n 0, 1, 0, 0, 0)) (q := (5, [.ref 59], [.ref 59], hO nS xs lg_86)) (am_cF_to (by with_unfolding_all rfl)) rfl (by with_unfolding_all rfl) ?_
  show am_Wp _ 91 5 _ _ _ _
  refine wp_step (e := (.new 9, 3, 9, 0, 8)) (q := (8, [.ref 59], [.ref 60, .ref 59], hO nS xs lg_87)) (am_cF_to (by with_unfolding_all rfl)) rfl (by with_unfolding_all rfl) ?_
  show am_Wp _ 91 8 _ _ _ _
  refine wp_step (e := (.dup, 1, 0, 0, 0)) (q := (9, [.ref 59], [.ref 60, .ref 60, .ref 59], hO nS xs lg_87)) (am_cF_to (by with_unfolding_all rfl)) rfl (by with_unfolding_all rfl) ?_
  show am_Wp _ 91 9 _ _ _ _
  refine (eq_call2 (e := (.invokespecial 11, 3, 4, 102, 150)) (as := [.ref 60]) (r := [.ref 60, .ref 59]) (n := 1) (m := 1) (by with_unfolding_all rfl) rfl (by decide) (by with_unfolding_all rfl) (by decide) (by with_unfolding_all rfl) ⟨fun z => absurd z (by decide), fun _ => rfl⟩).mpr ?_
  refine in_10 (d := d) ?_
  show am_Wp _ 91 12 _ _ _ _
  refine wp_step (e := (.putfield 12, 3, 8, 0, 99)) (q := (15, [.ref 59], [], hO nS xs lg_110)) (am_cF_to (by with_unfolding_all rfl)) rfl (by with_unfolding_all rfl) ?_
  show am_Wp _ 91 15 _ _ _ _
  refine wp_step (e := (.aload_n 0, 1, 0, 0, 0)) (q := (16, [.ref 59], [.ref 59], hO nS xs lg_110)) (am_cF_to (by with_unfolding_all rfl)) rfl (by with_unfolding_all rfl) ?_
  show am_Wp _ 91 16 _ _ _ _
  refine wp_step (e := (.sipush 600, 3, 0, 0, 0)) (q := (19, [.ref 59], [.int 600, .ref 59], hO nS xs lg_110)) (am_cF_to (by with_unfolding_all rfl)) rfl (by with_unfolding_all rfl) ?_
  show am_Wp _ 91 19 _ _ _ _
  refine wp_step (e := (.newarray .int, 2, 0, 0, 0)) (q := (21, [.ref 59], [.ref 72, .ref 59], hO nS xs lg_111)) (am_cF_to (by with_unfolding_all rfl)) rfl (by with_unfolding_all rfl) ?_
  show am_Wp _ 91 21 _ _ _ _
  refine wp_step (e := (.putfield 18, 3, 8, 1, 100)) (q := (24, [.ref 59], [], hO nS xs lg_112)) (am_cF_to (by with_unfolding_all rfl)) rfl (by with_unfolding_all rfl) ?_
  show am_Wp _ 91 24 _ _ _ _
  refine wp_step (e := (.aload_n 0, 1, 0, 0, 0)) (q := (25, [.ref 59], [.ref 59], hO nS xs lg_112)) (am_cF_to (by with_unfolding_all rfl)) rfl (by with_unfolding_all rfl) ?_
  show am_Wp _ 91 25 _ _ _ _
  refine wp_step (e := (.new 22, 3, 2, 0, 9)) (q := (28, [.ref 59], [.ref 73, .ref 59], hO nS xs lg_113)) (am_cF_to (by with_unfolding_all rfl)) rfl (by with_unfolding_all rfl) ?_
  show am_Wp _ 91 28 _ _ _ _
  refine wp_step (e := (.dup, 1, 0, 0, 0)) (q := (29, [.ref 59], [.ref 73, .ref 73, .ref 59], hO nS xs lg_113)) (am_cF_to (by with_unfolding_all rfl)) rfl (by with_unfolding_all rfl) ?_
  show am_Wp _ 91 29 _ _ _ _
  refine (eq_call2 (e := (.invokespecial 24, 3, 4, 19, 151)) (as := [.ref 73]) (r := [.ref 73, .ref 59]) (n := 1) (m := 1) (by with_unfolding_all rfl) rfl (by decide) (by with_unfolding_all rfl) (by decide) (by with_unfolding_all rfl) ⟨fun z => absurd z (by decide), fun _ => rfl⟩).mpr ?_
  refine in_11 (d := d) ?_
  show am_Wp _ 91 32 _ _ _ _
  refine wp_step (e := (.putfield 25, 3, 8, 2, 101)) (q := (35, [.ref 59], [], hO nS xs lg_128)) (am_cF_to (by with_unfolding_all rfl)) rfl (by with_unfolding_all rfl) ?_
  show am_Wp _ 91 35 _ _ _ _
  refine wp_step (e := (.aload_n 0, 1, 0, 0, 0)) (q := (36, [.ref 59], [.ref 59], hO nS xs lg_128)) (am_cF_to (by with_unfolding_all rfl)) rfl (by with_unfolding_all rfl) ?_
  show am_Wp _ 91 36 _ _ _ _
  refine wp_step (e := (.new 29, 3, 3, 0, 10)) (q := (39, [.ref 59], [.ref 81, .ref 59], hO nS xs lg_129)) (am_cF_to (by with_unfolding_all rfl)) rfl (by with_unfolding_all rfl) ?_
  show am_Wp _ 91 39 _ _ _ _
  refine wp_step (e := (.dup, 1, 0, 0, 0)) (q := (40, [.ref 59], [.ref 81, .ref 81, .ref 59], hO nS xs lg_129)) (am_cF_to (by with_unfolding_all rfl)) rfl (by with_unfolding_all rfl) ?_
  show am_Wp _ 91 40 _ _ _ _
  refine (eq_call2 (e := (.invokespecial 31, 3, 4, 32, 152)) (as := [.ref 81]) (r := [.ref 81, .ref 59]) (n := 1) (m := 1) (by with_unfolding_all rfl) rfl (by decide) (by with_unfolding_all rfl) (by decide) (by with_unfolding_all rfl) ⟨fun z => absurd z (by decide), fun _ => rfl⟩).mpr ?_
  refine in_12 (d := d) ?_
  show am_Wp _ 91 43 _ _ _ _
  refine wp_step (e := (.putfield 32, 3, 8, 3, 102)) (q := (46, [.ref 59], [], hO nS xs lg_132)) (am_cF_to (by with_unfolding_all rfl)) rfl (by with_unfolding_all rfl) ?_
  show am_Wp _ 91 46 _ _ _ _
  refine wp_step (e := (.aload_n 0, 1, 0, 0, 0)) (q := (47, [.ref 59], [.ref 59], hO nS xs lg_132)) (am_cF_to (by with_unfolding_all rfl)) rfl (by with_unfolding_all rfl) ?_
  show am_Wp _ 91 47 _ _ _ _
  refine wp_step (e := (.new 29, 3, 3, 0, 10)) (q := (50, [.ref 59], [.ref 83, .ref 59], hO nS xs lg_133)) (am_cF_to (by with_unfolding_all rfl)) rfl (by with_unfolding_all rfl) ?_
  show am_Wp _ 91 50 _ _ _ _
  refine wp_step (e := (.dup, 1, 0, 0, 0)) (q := (51, [.ref 59], [.ref 83, .ref 83, .ref 59], hO nS xs lg_133)) (am_cF_to (by with_unfolding_all rfl)) rfl (by with_unfolding_all rfl) ?_
  show am_Wp _ 91 51 _ _ _ _
  refine (eq_call2 (e := (.invokespecial 31, 3, 4, 32, 152)) (as := [.ref 83]) (r := [.ref 83, .ref 59]) (n := 1) (m := 1) (by with_unfolding_all rfl) rfl (by decide) (by with_unfolding_all rfl) (by decide) (by with_unfolding_all rfl) ⟨fun z => absurd z (by decide), fun _ => rfl⟩).mpr ?_
  refine in_13 (d := d) ?_
  show am_Wp _ 91 54 _ _ _ _
  refine wp_step (e := (.putfield 36, 3, 8, 4, 103)) (q := (57, [.ref 59], [], hO nS xs lg_136)) (am_cF_to (by with_unfolding_all rfl)) rfl (by with_unfolding_all rfl) ?_
  show am_Wp _ 91 57 _ _ _ _
  refine wp_step (e := (.aload_n 0, 1, 0, 0, 0)) (q := (58, [.ref 59], [.ref 59], hO nS xs lg_136)) (am_cF_to (by with_unfolding_all rfl)) rfl (by with_unfolding_all rfl) ?_
  show am_Wp _ 91 58 _ _ _ _
  refine wp_step (e := (.new 29, 3, 3, 0, 10)) (q := (61, [.ref 59], [.ref 85, .ref 59], hO nS xs lg_137)) (am_cF_to (by with_unfolding_all rfl)) rfl (by with_unfolding_all rfl) ?_
  show am_Wp _ 91 61 _ _ _ _
  refine wp_step (e := (.dup, 1, 0, 0, 0)) (q := (62, [.ref 59], [.ref 85, .ref 85, .ref 59], hO nS xs lg_137)) (am_cF_to (by with_unfolding_all rfl)) rfl (by with_unfolding_all rfl) ?_
  show am_Wp _ 91 62 _ _ _ _
  refine (eq_call2 (e := (.invokespecial 31, 3, 4, 32, 152)) (as := [.ref 85]) (r := [.ref 85, .ref 59]) (n := 1) (m := 1) (by with_unfolding_all rfl) rfl (by decide) (by with_unfolding_all rfl) (by decide) (by with_unfolding_all rfl) ⟨fun z => absurd z (by decide), fun _ => rfl⟩).mpr ?_
  refine in_14 (d := d) ?_
  show am_Wp _ 91 65 _ _ _ _
  refine wp_step (e := (.putfield 39, 3, 8, 5, 104)) (q := (68, [.ref 59], [], hO nS xs lg_140)) (am_cF_to (by with_unfolding_all rfl)) rfl (by with_unfolding_all rfl) ?_
  show am_Wp _ 91 68 _ _ _ _
  refine wp_step (e := (.aload_n 0, 1, 0, 0, 0)) (q := (69, [.ref 59], [.ref 59], hO nS xs lg_140)) (am_cF_to (by with_unfolding_all rfl)) rfl (by with_unfolding_all rfl) ?_
  show am_Wp _ 91 69 _ _ _ _
  refine wp_step (e := (.new 42, 3, 6, 0, 11)) (q := (72, [.ref 59], [.ref 87, .ref 59], hO nS xs lg_141)) (am_cF_to (by with_unfolding_all rfl)) rfl (by with_unfolding_all rfl) ?_
  show am_Wp _ 91 72 _ _ _ _
  refine wp_step (e := (.dup, 1, 0, 0, 0)) (q := (73, [.ref 59], [.ref 87, .ref 87, .ref 59], hO nS xs lg_141)) (am_cF_to (by with_unfolding_all rfl)) rfl (by with_unfolding_all rfl) ?_
  show am_Wp _ 91 73 _ _ _ _
  refine (eq_call2 (e := (.invokespecial 44, 3, 4, 64, 153)) (as := [.ref 87]) (r := [.ref 87, .ref 59]) (n := 1) (m := 1) (by with_unfolding_all rfl) rfl (by decide) (by with_unfolding_all rfl) (by decide) (by with_unfolding_all rfl) ⟨fun z => absurd z (by decide), fun _ => rfl⟩).mpr ?_
  refine in_15 (d := d) ?_
  show am_Wp _ 91 76 _ _ _ _
  refine wp_step (e := (.putfield 45, 3, 8, 6, 105)) (q := (79, [.ref 59], [], hO nS xs lg_150)) (am_cF_to (by with_unfolding_all rfl)) rfl (by with_unfolding_all rfl) ?_
  show am_Wp _ 91 79 _ _ _ _
  refine wp_step (e := (.aload_n 0, 1, 0, 0, 0)) (q := (80, [.ref 59], [.ref 59], hO nS xs lg_150)) (am_cF_to (by with_unfolding_all rfl)) rfl (by with_unfolding_all rfl) ?_
  show am_Wp _ 91 80 _ _ _ _
  refine wp_step (e := (.new 49, 3, 1, 0, 12)) (q := (83, [.ref 59], [.ref 92, .ref 59], hO nS xs lg_151)) (am_cF_to (by with_unfolding_all rfl)) rfl (by with_unfolding_all rfl) ?_
  show am_Wp _ 91 83 _ _ _ _
  refine wp_step (e := (.dup, 1, 0, 0, 0)) (q := (84, [.ref 59], [.ref 92, .ref 92, .ref 59], hO nS xs lg_151)) (am_cF_to (by with_unfolding_all rfl)) rfl (by with_unfolding_all rfl) ?_
  show am_Wp _ 91 84 _ _ _ _
  refine (eq_call2 (e := (.invokespecial 51, 3, 4, 11, 154)) (as := [.ref 92]) (r := [.ref 92, .ref 59]) (n := 1) (m := 1) (by with_unfolding_all rfl) rfl (by decide) (by with_unfolding_all rfl) (by decide) (by with_unfolding_all rfl) ⟨fun z => absurd z (by decide), fun _ => rfl⟩).mpr ?_
  refine in_16 (d := d) ?_
  show am_Wp _ 91 87 _ _ _ _
  refine wp_step (e := (.putfield 52, 3, 8, 7, 106)) (q := (90, [.ref 59], [], hO nS xs lg_158)) (am_cF_to (by with_unfolding_all rfl)) rfl (by with_unfolding_all rfl) ?_
  show am_Wp _ 91 90 _ _ _ _
  refine wp_step (e := (.aload_n 0, 1, 0, 0, 0)) (q := (91, [.ref 59], [.ref 59], hO nS xs lg_158)) (am_cF_to (by with_unfolding_all rfl)) rfl (by with_unfolding_all rfl) ?_
  show am_Wp _ 91 91 _ _ _ _
  refine wp_step (e := (.new 56, 3, 0, 0, 13)) (q := (94, [.ref 59], [.ref 96, .ref 59], hO nS xs lg_159)) (am_cF_to (by with_unfolding_all rfl)) rfl (by with_unfolding_all rfl) ?_
  show am_Wp _ 91 94 _ _ _ _
  refine wp_step (e := (.dup, 1, 0, 0, 0)) (q := (95, [.ref 59], [.ref 96, .ref 96, .ref 59], hO nS xs lg_159)) (am_cF_to (by with_unfolding_all rfl)) rfl (by with_unfolding_all rfl) ?_
  show am_Wp _ 91 95 _ _ _ _
  refine (eq_call2 (e := (.invokespecial 58, 3, 4, 1, 155)) (as := [.ref 96]) (r := [.ref 96, .ref 59]) (n := 1) (m := 1) (by with_unfolding_all rfl) rfl (by decide) (by with_unfolding_all rfl) (by decide) (by with_unfolding_all rfl) ⟨fun z => absurd z (by decide), fun _ => rfl⟩).mpr ?_
  refine in_17 (d := d) ?_
  show am_Wp _ 91 98 _ _ _ _
  refine wp_step (e := (.putfield 59, 3, 8, 8, 107)) (q := (101, [.ref 59], [], hO nS xs lg_168)) (am_cF_to (by with_unfolding_all rfl)) rfl (by with_unfolding_all rfl) ?_
  show am_Wp _ 91 101 _ _ _ _
  exact (eq_retV2 (e := (.return_, 1, 0, 0, 0)) (by with_unfolding_all rfl) rfl (by with_unfolding_all rfl)).mpr k
set_option maxRecDepth 20000 in
-- LarkExchange$World.<init> of [.ref 101]
theorem in_19 {d nS : Nat} {xs : Nat → Int32} {Q : Option Value → am_H → Prop} (k : Q none (hO nS xs lg_192)) : am_Wp (d + 1) 102 0 [.ref 101] [] (hO nS xs lg_170) Q := by
  refine wp_step (e := (.aload_n 0, 1, 0, 0, 0)) (q := (1, [.ref 101], [.ref 101], hO nS xs lg_170)) (am_cF_to (by with_unfolding_all rfl)) rfl (by with_unfolding_all rfl) ?_
  show am_Wp _ 102 1 _ _ _ _
  refine wp_obj (e := (.invokespecial 3, 3, 5, 0, 185)) (am_cF_to (by with_unfolding_all rfl)) rfl rfl (by decide) ?_
  show am_Wp _ 102 4 _ _ _ _
  refine wp_step (e := (.aload_n 0, 1, 0, 0, 0)) (q := (5, [.ref 101], [.ref 101], hO nS xs lg_170)) (am_cF_to (by with_unfolding_all rfl)) rfl (by with_unfolding_all rfl) ?_
  show am_Wp _ 102 5 _ _ _ _
  refine wp_step (e := (.bipush 6, 2, 0, 0, 0)) (q := (7, [.ref 101], [.int 6, .ref 101], hO nS xs lg_170)) (am_cF_to (by with_unfolding_all rfl)) rfl (by with_unfolding_all rfl) ?_
  show am_Wp _ 102 7 _ _ _ _
  refine wp_step (e := (.newarray .int, 2, 0, 0, 0)) (q := (9, [.ref 101], [.ref 102, .ref 101], hO nS xs lg_171)) (am_cF_to (by with_unfolding_all rfl)) rfl (by with_unfolding_all rfl) ?_
  show am_Wp _ 102 9 _ _ _ _
  refine wp_step (e := (.putfield 9, 3, 9, 7, 122)) (q := (12, [.ref 101], [], hO nS xs lg_172)) (am_cF_to (by with_unfolding_all rfl)) rfl (by with_unfolding_all rfl) ?_
  show am_Wp _ 102 12 _ _ _ _
  refine wp_step (e := (.aload_n 0, 1, 0, 0, 0)) (q := (13, [.ref 101], [.ref 101], hO nS xs lg_172)) (am_cF_to (by with_unfolding_all rfl)) rfl (by with_unfolding_all rfl) ?_
  show am_Wp _ 102 13 _ _ _ _
  refine wp_step (e := (.bipush 6, 2, 0, 0, 0)) (q := (15, [.ref 101], [.int 6, .ref 101], hO nS xs lg_172)) (am_cF_to (by with_unfolding_all rfl)) rfl (by with_unfolding_all rfl) ?_
  show am_Wp _ 102 15 _ _ _ _
  refine wp_step (e := (.newarray .int, 2, 0, 0, 0)) (q := (17, [.ref 101], [.ref 103, .ref 101], hO nS xs lg_173)) (am_cF_to (by with_unfolding_all rfl)) rfl (by with_unfolding_all rfl) ?_
  show am_Wp _ 102 17 _ _ _ _
  refine wp_step (e := (.putfield 15, 3, 9, 8, 123)) (q := (20, [.ref 101], [], hO nS xs lg_174)) (am_cF_to (by with_unfolding_all rfl)) rfl (by with_unfolding_all rfl) ?_
  show am_Wp _ 102 20 _ _ _ _
  refine wp_step (e := (.aload_n 0, 1, 0, 0, 0)) (q := (21, [.ref 101], [.ref 101], hO nS xs lg_174)) (am_cF_to (by with_unfolding_all rfl)) rfl (by with_unfolding_all rfl) ?_
  show am_Wp _ 102 21 _ _ _ _
  refine wp_step (e := (.bipush 6, 2, 0, 0, 0)) (q := (23, [.ref 101], [.int 6, .ref 101], hO nS xs lg_174)) (am_cF_to (by with_unfolding_all rfl)) rfl (by with_unfolding_all rfl) ?_
  show am_Wp _ 102 23 _ _ _ _
  refine wp_step (e := (.newarray .int, 2, 0, 0, 0)) (q := (25, [.ref 101], [.ref 104, .ref 101], hO nS xs lg_175)) (am_cF_to (by with_unfolding_all rfl)) rfl (by with_unfolding_all rfl) ?_
  show am_Wp _ 102 25 _ _ _ _
  refine wp_step (e := (.putfield 18, 3, 9, 9, 124)) (q := (28, [.ref 101], [], hO nS xs lg_176)) (am_cF_to (by with_unfolding_all rfl)) rfl (by with_unfolding_all rfl) ?_
  show am_Wp _ 102 28 _ _ _ _
  refine wp_step (e := (.aload_n 0, 1, 0, 0, 0)) (q := (29, [.ref 101], [.ref 101], hO nS xs lg_176)) (am_cF_to (by with_unfolding_all rfl)) rfl (by with_unfolding_all rfl) ?_
  show am_Wp _ 102 29 _ _ _ _
  refine wp_step (e := (.bipush 6, 2, 0, 0, 0)) (q := (31, [.ref 101], [.int 6, .ref 101], hO nS xs lg_176)) (am_cF_to (by with_unfolding_all rfl)) rfl (by with_unfolding_all rfl) ?_
  show am_Wp _ 102 31 _ _ _ _
  refine wp_step (e := (.newarray .int, 2, 0, 0, 0)) (q := (33, [.ref 101], [.ref 105, .ref 101], hO nS xs lg_177)) (am_cF_to (by with_unfolding_all rfl)) rfl (by with_unfolding_all rfl) ?_
  show am_Wp _ 102 33 _ _ _ _
  refine wp_step (e := (.putfield 21, 3, 9, 10, 125)) (q := (36, [.ref 101], [], hO nS xs lg_178)) (am_cF_to (by with_unfolding_all rfl)) rfl (by with_unfolding_all rfl) ?_
  show am_Wp _ 102 36 _ _ _ _
  refine wp_step (e := (.aload_n 0, 1, 0, 0, 0)) (q := (37, [.ref 101], [.ref 101], hO nS xs lg_178)) (am_cF_to (by with_unfolding_all rfl)) rfl (by with_unfolding_all rfl) ?_
  show am_Wp _ 102 37 _ _ _ _
  refine wp_step (e := (.bipush 6, 2, 0, 0, 0)) (q := (39, [.ref 101], [.int 6, .ref 101], hO nS xs lg_178)) (am_cF_to (by with_unfolding_all rfl)) rfl (by with_unfolding_all rfl) ?_
  show am_Wp _ 102 39 _ _ _ _
  refine wp_step (e := (.newarray .int, 2, 0, 0, 0)) (q := (41, [.ref 101], [.ref 106, .ref 101], hO nS xs lg_179)) (am_cF_to (by with_unfolding_all rfl)) rfl (by with_unfolding_all rfl) ?_
  show am_Wp _ 102 41 _ _ _ _
  refine wp_step (e := (.putfield 24, 3, 9, 11, 126)) (q := (44, [.ref 101], [], hO nS xs lg_180)) (am_cF_to (by with_unfolding_all rfl)) rfl (by with_unfolding_all rfl) ?_
  show am_Wp _ 102 44 _ _ _ _
  refine wp_step (e := (.aload_n 0, 1, 0, 0, 0)) (q := (45, [.ref 101], [.ref 101], hO nS xs lg_180)) (am_cF_to (by with_unfolding_all rfl)) rfl (by with_unfolding_all rfl) ?_
  show am_Wp _ 102 45 _ _ _ _
  refine wp_step (e := (.bipush 8, 2, 0, 0, 0)) (q := (47, [.ref 101], [.int 8, .ref 101], hO nS xs lg_180)) (am_cF_to (by with_unfolding_all rfl)) rfl (by with_unfolding_all rfl) ?_
  show am_Wp _ 102 47 _ _ _ _
  refine wp_step (e := (.newarray .int, 2, 0, 0, 0)) (q := (49, [.ref 101], [.ref 107, .ref 101], hO nS xs lg_181)) (am_cF_to (by with_unfolding_all rfl)) rfl (by with_unfolding_all rfl) ?_
  show am_Wp _ 102 49 _ _ _ _
  refine wp_step (e := (.putfield 27, 3, 9, 12, 127)) (q := (52, [.ref 101], [], hO nS xs lg_182)) (am_cF_to (by with_unfolding_all rfl)) rfl (by with_unfolding_all rfl) ?_
  show am_Wp _ 102 52 _ _ _ _
  refine wp_step (e := (.aload_n 0, 1, 0, 0, 0)) (q := (53, [.ref 101], [.ref 101], hO nS xs lg_182)) (am_cF_to (by with_unfolding_all rfl)) rfl (by with_unfolding_all rfl) ?_
  show am_Wp _ 102 53 _ _ _ _
  refine wp_step (e := (.bipush 8, 2, 0, 0, 0)) (q := (55, [.ref 101], [.int 8, .ref 101], hO nS xs lg_182)) (am_cF_to (by with_unfolding_all rfl)) rfl (by with_unfolding_all rfl) ?_
  show am_Wp _ 102 55 _ _ _ _
  refine wp_step (e := (.newarray .int, 2, 0, 0, 0)) (q := (57, [.ref 101], [.ref 108, .ref 101], hO nS xs lg_183)) (am_cF_to (by with_unfolding_all rfl)) rfl (by with_unfolding_all rfl) ?_
  show am_Wp _ 102 57 _ _ _ _
  refine wp_step (e := (.putfield 30, 3, 9, 13, 128)) (q := (60, [.ref 101], [], hO nS xs lg_184)) (am_cF_to (by with_unfolding_all rfl)) rfl (by with_unfolding_all rfl) ?_
  show am_Wp _ 102 60 _ _ _ _
  refine wp_step (e := (.aload_n 0, 1, 0, 0, 0)) (q := (61, [.ref 101], [.ref 101], hO nS xs lg_184)) (am_cF_to (by with_unfolding_all rfl)) rfl (by with_unfolding_all rfl) ?_
  show am_Wp _ 102 61 _ _ _ _
  refine wp_step (e := (.bipush 8, 2, 0, 0, 0)) (q := (63, [.ref 101], [.int 8, .ref 101], hO nS xs lg_184)) (am_cF_to (by with_unfolding_all rfl)) rfl (by with_unfolding_all rfl) ?_
  show am_Wp _ 102 63 _ _ _ _
  refine wp_step (e := (.newarray .int, 2, 0, 0, 0)) (q := (65, [.ref 101], [.ref 109, .ref 101], hO nS xs lg_185)) (am_cF_to (by with_unfolding_all rfl)) rfl (by with_unfolding_all rfl) ?_
  show am_Wp _ 102 65 _ _ _ _
  refine wp_step (e := (.putfield 33, 3, 9, 14, 129)) (q := (68, [.ref 101], [], hO nS xs lg_186)) (am_cF_to (by with_unfolding_all rfl)) rfl (by with_unfolding_all rfl) ?_
  show am_Wp _ 102 68 _ _ _ _
  refine wp_step (e := (.aload_n 0, 1, 0, 0, 0)) (q := (69, [.ref 101], [.ref 101], hO nS xs lg_186)) (am_cF_to (by with_unfolding_all rfl)) rfl (by with_unfolding_all rfl) ?_
  show am_Wp _ 102 69 _ _ _ _
  refine wp_step (e := (.bipush 10, 2, 0, 0, 0)) (q := (71, [.ref 101], [.int 10, .ref 101], hO nS xs lg_186)) (am_cF_to (by with_unfolding_all rfl)) rfl (by with_unfolding_all rfl) ?_
  show am_Wp _ 102 71 _ _ _ _
  refine wp_step (e := (.newarray .int, 2, 0, 0, 0)) (q := (73, [.ref 101], [.ref 110, .ref 101], hO nS xs lg_187)) (am_cF_to (by with_unfolding_all rfl)) rfl (by with_unfolding_all rfl) ?_
  show am_Wp _ 102 73 _ _ _ _
  refine wp_step (e := (.putfield 36, 3, 9, 15, 130)) (q := (76, [.ref 101], [], hO nS xs lg_188)) (am_cF_to (by with_unfolding_all rfl)) rfl (by with_unfolding_all rfl) ?_
  show am_Wp _ 102 76 _ _ _ _
  refine wp_step (e := (.aload_n 0, 1, 0, 0, 0)) (q := (77, [.ref 101], [.ref 101], hO nS xs lg_188)) (am_cF_to (by with_unfolding_all rfl)) rfl (by with_unfolding_all rfl) ?_
  show am_Wp _ 102 77 _ _ _ _
  refine wp_step (e := (.bipush 10, 2, 0, 0, 0)) (q := (79, [.ref 101], [.int 10, .ref 101], hO nS xs lg_188)) (am_cF_to (by with_unfolding_all rfl)) rfl (by with_unfolding_all rfl) ?_
  show am_Wp _ 102 79 _ _ _ _
  refine wp_step (e := (.newarray .int, 2, 0, 0, 0)) (q := (81, [.ref 101], [.ref 111, .ref 101], hO nS xs lg_189)) (am_cF_to (by with_unfolding_all rfl)) rfl (by with_unfolding_all rfl) ?_
  show am_Wp _ 102 81 _ _ _ _
  refine wp_step (e := (.putfield 39, 3, 9, 16, 131)) (q := (84, [.ref 101], [], hO nS xs lg_190)) (am_cF_to (by with_unfolding_all rfl)) rfl (by with_unfolding_all rfl) ?_
  show am_Wp _ 102 84 _ _ _ _
  refine wp_step (e := (.aload_n 0, 1, 0, 0, 0)) (q := (85, [.ref 101], [.ref 101], hO nS xs lg_190)) (am_cF_to (by with_unfolding_all rfl)) rfl (by with_unfolding_all rfl) ?_
  show am_Wp _ 102 85 _ _ _ _
  refine wp_step (e := (.bipush 80, 2, 0, 0, 0)) (q := (87, [.ref 101], [.int 80, .ref 101], hO nS xs lg_190)) (am_cF_to (by with_unfolding_all rfl)) rfl (by with_unfolding_all rfl) ?_
  show am_Wp _ 102 87 _ _ _ _
  refine wp_step (e := (.newarray .int, 2, 0, 0, 0)) (q := (89, [.ref 101], [.ref 112, .ref 101], hO nS xs lg_191)) (am_cF_to (by with_unfolding_all rfl)) rfl (by with_unfolding_all rfl) ?_
  show am_Wp _ 102 89 _ _ _ _
  refine wp_step (e := (.putfield 42, 3, 9, 17, 132)) (q := (92, [.ref 101], [], hO nS xs lg_192)) (am_cF_to (by with_unfolding_all rfl)) rfl (by with_unfolding_all rfl) ?_
  show am_Wp _ 102 92 _ _ _ _
  exact (eq_retV2 (e := (.return_, 1, 0, 0, 0)) (by with_unfolding_all rfl) rfl (by with_unfolding_all rfl)).mpr k
end
