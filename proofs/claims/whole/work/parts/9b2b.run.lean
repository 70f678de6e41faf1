section
/-! THE CONSTRUCTORS RUN -/
set_option maxRecDepth 20000 in
-- LarkExchange$World.<init> of [.ref 115]
theorem in_20 {d nS : Nat} {xs : Nat → Int32} {Q : Option Value → am_H → Prop} (k : Q none (hO nS xs lg_219)) : am_Wp (d + 1) 102 0 [.ref 115] [] (hO nS xs lg_197) Q := by
  refine wp_step (e := (.aload_n 0, 1, 0, 0, 0)) (q := (1, [.ref 115], [.ref 115], hO nS xs lg_197)) (am_cF_to (by with_unfolding_all rfl)) rfl (by with_unfolding_all rfl) ?_
  show am_Wp _ 102 1 _ _ _ _
  refine wp_obj (e := (.invokespecial 3, 3, 5, 0, 185)) (am_cF_to (by with_unfolding_all rfl)) rfl rfl (by decide) ?_
  show am_Wp _ 102 4 _ _ _ _
  refine wp_step (e := (.aload_n 0, 1, 0, 0, 0)) (q := (5, [.ref 115], [.ref 115], hO nS xs lg_197)) (am_cF_to (by with_unfolding_all rfl)) rfl (by with_unfolding_all rfl) ?_
  show am_Wp _ 102 5 _ _ _ _
  refine wp_step (e := (.bipush 6, 2, 0, 0, 0)) (q := (7, [.ref 115], [.int 6, .ref 115], hO nS xs lg_197)) (am_cF_to (by with_unfolding_all rfl)) rfl (by with_unfolding_all rfl) ?_
  show am_Wp _ 102 7 _ _ _ _
  refine wp_step (e := (.newarray .int, 2, 0, 0, 0)) (q := (9, [.ref 115], [.ref 116, .ref 115], hO nS xs lg_198)) (am_cF_to (by with_unfolding_all rfl)) rfl (by with_unfolding_all rfl) ?_
  show am_Wp _ 102 9 _ _ _ _
  refine wp_step (e := (.putfield 9, 3, 9, 7, 122)) (q := (12, [.ref 115], [], hO nS xs lg_199)) (am_cF_to (by with_unfolding_all rfl)) rfl (by with_unfolding_all rfl) ?_
  show am_Wp _ 102 12 _ _ _ _
  refine wp_step (e := (.aload_n 0, 1, 0, 0, 0)) (q := (13, [.ref 115], [.ref 115], hO nS xs lg_199)) (am_cF_to (by with_unfolding_all rfl)) rfl (by with_unfolding_all rfl) ?_
  show am_Wp _ 102 13 _ _ _ _
  refine wp_step (e := (.bipush 6, 2, 0, 0, 0)) (q := (15, [.ref 115], [.int 6, .ref 115], hO nS xs lg_199)) (am_cF_to (by with_unfolding_all rfl)) rfl (by with_unfolding_all rfl) ?_
  show am_Wp _ 102 15 _ _ _ _
  refine wp_step (e := (.newarray .int, 2, 0, 0, 0)) (q := (17, [.ref 115], [.ref 117, .ref 115], hO nS xs lg_200)) (am_cF_to (by with_unfolding_all rfl)) rfl (by with_unfolding_all rfl) ?_
  show am_Wp _ 102 17 _ _ _ _
  refine wp_step (e := (.putfield 15, 3, 9, 8, 123)) (q := (20, [.ref 115], [], hO nS xs lg_201)) (am_cF_to (by with_unfolding_all rfl)) rfl (by with_unfolding_all rfl) ?_
  show am_Wp _ 102 20 _ _ _ _
  refine wp_step (e := (.aload_n 0, 1, 0, 0, 0)) (q := (21, [.ref 115], [.ref 115], hO nS xs lg_201)) (am_cF_to (by with_unfolding_all rfl)) rfl (by with_unfolding_all rfl) ?_
  show am_Wp _ 102 21 _ _ _ _
  refine wp_step (e := (.bipush 6, 2, 0, 0, 0)) (q := (23, [.ref 115], [.int 6, .ref 115], hO nS xs lg_201)) (am_cF_to (by with_unfolding_all rfl)) rfl (by with_unfolding_all rfl) ?_
  show am_Wp _ 102 23 _ _ _ _
  refine wp_step (e := (.newarray .int, 2, 0, 0, 0)) (q := (25, [.ref 115], [.ref 118, .ref 115], hO nS xs lg_202)) (am_cF_to (by with_unfolding_all rfl)) rfl (by with_unfolding_all rfl) ?_
  show am_Wp _ 102 25 _ _ _ _
  refine wp_step (e := (.putfield 18, 3, 9, 9, 124)) (q := (28, [.ref 115], [], hO nS xs lg_203)) (am_cF_to (by with_unfolding_all rfl)) rfl (by with_unfolding_all rfl) ?_
  show am_Wp _ 102 28 _ _ _ _
  refine wp_step (e := (.aload_n 0, 1, 0, 0, 0)) (q := (29, [.ref 115], [.ref 115], hO nS xs lg_203)) (am_cF_to (by with_unfolding_all rfl)) rfl (by with_unfolding_all rfl) ?_
  show am_Wp _ 102 29 _ _ _ _
  refine wp_step (e := (.bipush 6, 2, 0, 0, 0)) (q := (31, [.ref 115], [.int 6, .ref 115], hO nS xs lg_203)) (am_cF_to (by with_unfolding_all rfl)) rfl (by with_unfolding_all rfl) ?_
  show am_Wp _ 102 31 _ _ _ _
  refine wp_step (e := (.newarray .int, 2, 0, 0, 0)) (q := (33, [.ref 115], [.ref 119, .ref 115], hO nS xs lg_204)) (am_cF_to (by with_unfolding_all rfl)) rfl (by with_unfolding_all rfl) ?_
  show am_Wp _ 102 33 _ _ _ _
  refine wp_step (e := (.putfield 21, 3, 9, 10, 125)) (q := (36, [.ref 115], [], hO nS xs lg_205)) (am_cF_to (by with_unfolding_all rfl)) rfl (by with_unfolding_all rfl) ?_
  show am_Wp _ 102 36 _ _ _ _
  refine wp_step (e := (.aload_n 0, 1, 0, 0, 0)) (q := (37, [.ref 115], [.ref 115], hO nS xs lg_205)) (am_cF_to (by with_unfolding_all rfl)) rfl (by with_unfolding_all rfl) ?_
  show am_Wp _ 102 37 _ _ _ _
  refine wp_step (e := (.bipush 6, 2, 0, 0, 0)) (q := (39, [.ref 115], [.int 6, .ref 115], hO nS xs lg_205)) (am_cF_to (by with_unfolding_all rfl)) rfl (by with_unfolding_all rfl) ?_
  show am_Wp _ 102 39 _ _ _ _
  refine wp_step (e := (.newarray .int, 2, 0, 0, 0)) (q := (41, [.ref 115], [.ref 120, .ref 115], hO nS xs lg_206)) (am_cF_to (by with_unfolding_all rfl)) rfl (by with_unfolding_all rfl) ?_
  show am_Wp _ 102 41 _ _ _ _
  refine wp_step (e := (.putfield 24, 3, 9, 11, 126)) (q := (44, [.ref 115], [], hO nS xs lg_207)) (am_cF_to (by with_unfolding_all rfl)) rfl (by with_unfolding_all rfl) ?_
  show am_Wp _ 102 44 _ _ _ _
  refine wp_step (e := (.aload_n 0, 1, 0, 0, 0)) (q := (45, [.ref 115], [.ref 115], hO nS xs lg_207)) (am_cF_to (by with_unfolding_all rfl)) rfl (by with_unfolding_all rfl) ?_
  show am_Wp _ 102 45 _ _ _ _
  refine wp_step (e := (.bipush 8, 2, 0, 0, 0)) (q := (47, [.ref 115], [.int 8, .ref 115], hO nS xs lg_207)) (am_cF_to (by with_unfolding_all rfl)) rfl (by with_unfolding_all rfl) ?_
  show am_Wp _ 102 47 _ _ _ _
  refine wp_step (e := (.newarray .int, 2, 0, 0, 0)) (q := (49, [.ref 115], [.ref 121, .ref 115], hO nS xs lg_208)) (am_cF_to (by with_unfolding_all rfl)) rfl (by with_unfolding_all rfl) ?_
  show am_Wp _ 102 49 _ _ _ _
  refine wp_step (e := (.putfield 27, 3, 9, 12, 127)) (q := (52, [.ref 115], [], hO nS xs lg_209)) (am_cF_to (by with_unfolding_all rfl)) rfl (by with_unfolding_all rfl) ?_
  show am_Wp _ 102 52 _ _ _ _
  refine wp_step (e := (.aload_n 0, 1, 0, 0, 0)) (q := (53, [.ref 115], [.ref 115], hO nS xs lg_209)) (am_cF_to (by with_unfolding_all rfl)) rfl (by with_unfolding_all rfl) ?_
  show am_Wp _ 102 53 _ _ _ _
  refine wp_step (e := (.bipush 8, 2, 0, 0, 0)) (q := (55, [.ref 115], [.int 8, .ref 115], hO nS xs lg_209)) (am_cF_to (by with_unfolding_all rfl)) rfl (by with_unfolding_all rfl) ?_
  show am_Wp _ 102 55 _ _ _ _
  refine wp_step (e := (.newarray .int, 2, 0, 0, 0)) (q := (57, [.ref 115], [.ref 122, .ref 115], hO nS xs lg_210)) (am_cF_to (by with_unfolding_all rfl)) rfl (by with_unfolding_all rfl) ?_
  show am_Wp _ 102 57 _ _ _ _
  refine wp_step (e := (.putfield 30, 3, 9, 13, 128)) (q := (60, [.ref 115], [], hO nS xs lg_211)) (am_cF_to (by with_unfolding_all rfl)) rfl (by with_unfolding_all rfl) ?_
  show am_Wp _ 102 60 _ _ _ _
  refine wp_step (e := (.aload_n 0, 1, 0, 0, 0)) (q := (61, [.ref 115], [.ref 115], hO nS xs lg_211)) (am_cF_to (by with_unfolding_all rfl)) rfl (by with_unfolding_all rfl) ?_
  show am_Wp _ 102 61 _ _ _ _
  refine wp_step (e := (.bipush 8, 2, 0, 0, 0)) (q := (63, [.ref 115], [.int 8, .ref 115], hO nS xs lg_211)) (am_cF_to (by with_unfolding_all rfl)) rfl (by with_unfolding_all rfl) ?_
  show am_Wp _ 102 63 _ _ _ _
  refine wp_step (e := (.newarray .int, 2, 0, 0, 0)) (q := (65, [.ref 115], [.ref 123, .ref 115], hO nS xs lg_212)) (am_cF_to (by with_unfolding_all rfl)) rfl (by with_unfolding_all rfl) ?_
  show am_Wp _ 102 65 _ _ _ _
  refine wp_step (e := (.putfield 33, 3, 9, 14, 129)) (q := (68, [.ref 115], [], hO nS xs lg_213)) (am_cF_to (by with_unfolding_all rfl)) rfl (by with_unfolding_all rfl) ?_
  show am_Wp _ 102 68 _ _ _ _
  refine wp_step (e := (.aload_n 0, 1, 0, 0, 0)) (q := (69, [.ref 115], [.ref 115], hO nS xs lg_213)) (am_cF_to (by with_unfolding_all rfl)) rfl (by with_unfolding_all rfl) ?_
  show am_Wp _ 102 69 _ _ _ _
  refine wp_step (e := (.bipush 10, 2, 0, 0, 0)) (q := (71, [.ref 115], [.int 10, .ref 115], hO nS xs lg_213)) (am_cF_to (by with_unfolding_all rfl)) rfl (by with_unfolding_all rfl) ?_
  show am_Wp _ 102 71 _ _ _ _
  refine wp_step (e := (.newarray .int, 2, 0, 0, 0)) (q := (73, [.ref 115], [.ref 124, .ref 115], hO nS xs lg_214)) (am_cF_to (by with_unfolding_all rfl)) rfl (by with_unfolding_all rfl) ?_
  show am_Wp _ 102 73 _ _ _ _
  refine wp_step (e := (.putfield 36, 3, 9, 15, 130)) (q := (76, [.ref 115], [], hO nS xs lg_215)) (am_cF_to (by with_unfolding_all rfl)) rfl (by with_unfolding_all rfl) ?_
  show am_Wp _ 102 76 _ _ _ _
  refine wp_step (e := (.aload_n 0, 1, 0, 0, 0)) (q := (77, [.ref 115], [.ref 115], hO nS xs lg_215)) (am_cF_to (by with_unfolding_all rfl)) rfl (by with_unfolding_all rfl) ?_
  show am_Wp _ 102 77 _ _ _ _
  refine wp_step (e := (.bipush 10, 2, 0, 0, 0)) (q := (79, [.ref 115], [.int 10, .ref 115], hO nS xs lg_215)) (am_cF_to (by with_unfolding_all rfl)) rfl (by with_unfolding_all rfl) ?_
  show am_Wp _ 102 79 _ _ _ _
  refine wp_step (e := (.newarray .int, 2, 0, 0, 0)) (q := (81, [.ref 115], [.ref 125, .ref 115], hO nS xs lg_216)) (am_cF_to (by with_unfolding_all rfl)) rfl (by with_unfolding_all rfl) ?_
  show am_Wp _ 102 81 _ _ _ _
  refine wp_step (e := (.putfield 39, 3, 9, 16, 131)) (q := (84, [.ref 115], [], hO nS xs lg_217)) (am_cF_to (by with_unfolding_all rfl)) rfl (by with_unfolding_all rfl) ?_
  show am_Wp _ 102 84 _ _ _ _
  refine wp_step (e := (.aload_n 0, 1, 0, 0, 0)) (q := (85, [.ref 115], [.ref 115], hO nS xs lg_217)) (am_cF_to (by with_unfolding_all rfl)) rfl (by with_unfolding_all rfl) ?_
  show am_Wp _ 102 85 _ _ _ _
  refine wp_step (e := (.bipush 80, 2, 0, 0, 0)) (q := (87, [.ref 115], [.int 80, .ref 115], hO nS xs lg_217)) (am_cF_to (by with_unfolding_all rfl)) rfl (by with_unfolding_all rfl) ?_
  show am_Wp _ 102 87 _ _ _ _
  refine wp_step (e := (.newarray .int, 2, 0, 0, 0)) (q := (89, [.ref 115], [.ref 126, .ref 115], hO nS xs lg_218)) (am_cF_to (by with_unfolding_all rfl)) rfl (by with_unfolding_all rfl) ?_
  show am_Wp _ 102 89 _ _ _ _
  refine wp_step (e := (.putfield 42, 3, 9, 17, 132)) (q := (92, [.ref 115], [], hO nS xs lg_219)) (am_cF_to (by with_unfolding_all rfl)) rfl (by with_unfolding_all rfl) ?_
  show am_Wp _ 102 92 _ _ _ _
  exact (eq_retV2 (e := (.return_, 1, 0, 0, 0)) (by with_unfolding_all rfl) rfl (by with_unfolding_all rfl)).mpr k
set_option maxRecDepth 20000 in
-- LarkExchange$World.<init> of [.ref 127]
theorem in_21 {d nS : Nat} {xs : Nat → Int32} {Q : Option Value → am_H → Prop} (k : Q none (hO nS xs lg_243)) : am_Wp (d + 1) 102 0 [.ref 127] [] (hO nS xs lg_221) Q := by
  refine wp_step (e := (.aload_n 0, 1, 0, 0, 0)) (q := (1, [.ref 127], [.ref 127], hO nS xs lg_221)) (am_cF_to (by with_unfolding_all rfl)) rfl (by with_unfolding_all rfl) ?_
  show am_Wp _ 102 1 _ _ _ _
  refine wp_obj (e := (.invokespecial 3, 3, 5, 0, 185)) (am_cF_to (by with_unfolding_all rfl)) rfl rfl (by decide) ?_
  show am_Wp _ 102 4 _ _ _ _
  refine wp_step (e := (.aload_n 0, 1, 0, 0, 0)) (q := (5, [.ref 127], [.ref 127], hO nS xs lg_221)) (am_cF_to (by with_unfolding_all rfl)) rfl (by with_unfolding_all rfl) ?_
  show am_Wp _ 102 5 _ _ _ _
  refine wp_step (e := (.bipush 6, 2, 0, 0, 0)) (q := (7, [.ref 127], [.int 6, .ref 127], hO nS xs lg_221)) (am_cF_to (by with_unfolding_all rfl)) rfl (by with_unfolding_all rfl) ?_
  show am_Wp _ 102 7 _ _ _ _
  refine wp_step (e := (.newarray .int, 2, 0, 0, 0)) (q := (9, [.ref 127], [.ref 128, .ref 127], hO nS xs lg_222)) (am_cF_to (by with_unfolding_all rfl)) rfl (by with_unfolding_all rfl) ?_
  show am_Wp _ 102 9 _ _ _ _
  refine wp_step (e := (.putfield 9, 3, 9, 7, 122)) (q := (12, [.ref 127], [], hO nS xs lg_223)) (am_cF_to (by with_unfolding_all rfl)) rfl (by with_unfolding_all rfl) ?_
  show am_Wp _ 102 12 _ _ _ _
  refine wp_step (e := (.aload_n 0, 1, 0, 0, 0)) (q := (13, [.ref 127], [.ref 127], hO nS xs lg_223)) (am_cF_to (by with_unfolding_all rfl)) rfl (by with_unfolding_all rfl) ?_
  show am_Wp _ 102 13 _ _ _ _
  refine wp_step (e := (.bipush 6, 2, 0, 0, 0)) (q := (15, [.ref 127], [.int 6, .ref 127], hO nS xs lg_223)) (am_cF_to (by with_unfolding_all rfl)) rfl (by with_unfolding_all rfl) ?_
  show am_Wp _ 102 15 _ _ _ _
  refine wp_step (e := (.newarray .int, 2, 0, 0, 0)) (q := (17, [.ref 127], [.ref 129, .ref 127], hO nS xs lg_224)) (am_cF_to (by with_unfolding_all rfl)) rfl (by with_unfolding_all rfl) ?_
  show am_Wp _ 102 17 _ _ _ _
  refine wp_step (e := (.putfield 15, 3, 9, 8, 123)) (q := (20, [.ref 127], [], hO nS xs lg_225)) (am_cF_to (by with_unfolding_all rfl)) rfl (by with_unfolding_all rfl) ?_
  show am_Wp _ 102 20 _ _ _ _
  refine wp_step (e := (.aload_n 0, 1, 0, 0, 0)) (q := (21, [.ref 127], [.ref 127], hO nS xs lg_225)) (am_cF_to (by with_unfolding_all rfl)) rfl (by with_unfolding_all rfl) ?_
  show am_Wp _ 102 21 _ _ _ _
  refine wp_step (e := (.bipush 6, 2, 0, 0, 0)) (q := (23, [.ref 127], [.int 6, .ref 127], hO nS xs lg_225)) (am_cF_to (by with_unfolding_all rfl)) rfl (by with_unfolding_all rfl) ?_
  show am_Wp _ 102 23 _ _ _ _
  refine wp_step (e := (.newarray .int, 2, 0, 0, 0)) (q := (25, [.ref 127], [.ref 130, .ref 127], hO nS xs lg_226)) (am_cF_to (by with_unfolding_all rfl)) rfl (by with_unfolding_all rfl) ?_
  show am_Wp _ 102 25 _ _ _ _
  refine wp_step (e := (.putfield 18, 3, 9, 9, 124)) (q := (28, [.ref 127], [], hO nS xs lg_227)) (am_cF_to (by with_unfolding_all rfl)) rfl (by with_unfolding_all rfl) ?_
  show am_Wp _ 102 28 _ _ _ _
  refine wp_step (e := (.aload_n 0, 1, 0, 0, 0)) (q := (29, [.ref 127], [.ref 127], hO nS xs lg_227)) (am_cF_to (by with_unfolding_all rfl)) rfl (by with_unfolding_all rfl) ?_
  show am_Wp _ 102 29 _ _ _ _
  refine wp_step (e := (.bipush 6, 2, 0, 0, 0)) (q := (31, [.ref 127], [.int 6, .ref 127], hO nS xs lg_227)) (am_cF_to (by with_unfolding_all rfl)) rfl (by with_unfolding_all rfl) ?_
  show am_Wp _ 102 31 _ _ _ _
  refine wp_step (e := (.newarray .int, 2, 0, 0, 0)) (q := (33, [.ref 127], [.ref 131, .ref 127], hO nS xs lg_228)) (am_cF_to (by with_unfolding_all rfl)) rfl (by with_unfolding_all rfl) ?_
  show am_Wp _ 102 33 _ _ _ _
  refine wp_step (e := (.putfield 21, 3, 9, 10, 125)) (q := (36, [.ref 127], [], hO nS xs lg_229)) (am_cF_to (by with_unfolding_all rfl)) rfl (by with_unfolding_all rfl) ?_
  show am_Wp _ 102 36 _ _ _ _
  refine wp_step (e := (.aload_n 0, 1, 0, 0, 0)) (q := (37, [.ref 127], [.ref 127], hO nS xs lg_229)) (am_cF_to (by with_unfolding_all rfl)) rfl (by with_unfolding_all rfl) ?_
  show am_Wp _ 102 37 _ _ _ _
  refine wp_step (e := (.bipush 6, 2, 0, 0, 0)) (q := (39, [.ref 127], [.int 6, .ref 127], hO nS xs lg_229)) (am_cF_to (by with_unfolding_all rfl)) rfl (by with_unfolding_all rfl) ?_
  show am_Wp _ 102 39 _ _ _ _
  refine wp_step (e := (.newarray .int, 2, 0, 0, 0)) (q := (41, [.ref 127], [.ref 132, .ref 127], hO nS xs lg_230)) (am_cF_to (by with_unfolding_all rfl)) rfl (by with_unfolding_all rfl) ?_
  show am_Wp _ 102 41 _ _ _ _
  refine wp_step (e := (.putfield 24, 3, 9, 11, 126)) (q := (44, [.ref 127], [], hO nS xs lg_231)) (am_cF_to (by with_unfolding_all rfl)) rfl (by with_unfolding_all rfl) ?_
  show am_Wp _ 102 44 _ _ _ _
  refine wp_step (e := (.aload_n 0, 1, 0, 0, 0)) (q := (45, [.ref 127], [.ref 127], hO nS xs lg_231)) (am_cF_to (by with_unfolding_all rfl)) rfl (by with_unfolding_all rfl) ?_
  show am_Wp _ 102 45 _ _ _ _
  refine wp_step (e := (.bipush 8, 2, 0, 0, 0)) (q := (47, [.ref 127], [.int 8, .ref 127], hO nS xs lg_231)) (am_cF_to (by with_unfolding_all rfl)) rfl (by with_unfolding_all rfl) ?_
  show am_Wp _ 102 47 _ _ _ _
  refine wp_step (e := (.newarray .int, 2, 0, 0, 0)) (q := (49, [.ref 127], [.ref 133, .ref 127], hO nS xs lg_232)) (am_cF_to (by with_unfolding_all rfl)) rfl (by with_unfolding_all rfl) ?_
  show am_Wp _ 102 49 _ _ _ _
  refine wp_step (e := (.putfield 27, 3, 9, 12, 127)) (q := (52, [.ref 127], [], hO nS xs lg_233)) (am_cF_to (by with_unfolding_all rfl)) rfl (by with_unfolding_all rfl) ?_
  show am_Wp _ 102 52 _ _ _ _
  refine wp_step (e := (.aload_n 0, 1, 0, 0, 0)) (q := (53, [.ref 127], [.ref 127], hO nS xs lg_233)) (am_cF_to (by with_unfolding_all rfl)) rfl (by with_unfolding_all rfl) ?_
  show am_Wp _ 102 53 _ _ _ _
  refine wp_step (e := (.bipush 8, 2, 0, 0, 0)) (q := (55, [.ref 127], [.int 8, .ref 127], hO nS xs lg_233)) (am_cF_to (by with_unfolding_all rfl)) rfl (by with_unfolding_all rfl) ?_
  show am_Wp _ 102 55 _ _ _ _
  refine wp_step (e := (.newarray .int, 2, 0, 0, 0)) (q := (57, [.ref 127], [.ref 134, .ref 127], hO nS xs lg_234)) (am_cF_to (by with_unfolding_all rfl)) rfl (by with_unfolding_all rfl) ?_
  show am_Wp _ 102 57 _ _ _ _
  refine wp_step (e := (.putfield 30, 3, 9, 13, 128)) (q := (60, [.ref 127], [], hO nS xs lg_235)) (am_cF_to (by with_unfolding_all rfl)) rfl (by with_unfolding_all rfl) ?_
  show am_Wp _ 102 60 _ _ _ _
  refine wp_step (e := (.aload_n 0, 1, 0, 0, 0)) (q := (61, [.ref 127], [.ref 127], hO nS xs lg_235)) (am_cF_to (by with_unfolding_all rfl)) rfl (by with_unfolding_all rfl) ?_
  show am_Wp _ 102 61 _ _ _ _
  refine wp_step (e := (.bipush 8, 2, 0, 0, 0)) (q := (63, [.ref 127], [.int 8, .ref 127], hO nS xs lg_235)) (am_cF_to (by with_unfolding_all rfl)) rfl (by with_unfolding_all rfl) ?_
  show am_Wp _ 102 63 _ _ _ _
  refine wp_step (e := (.newarray .int, 2, 0, 0, 0)) (q := (65, [.ref 127], [.ref 135, .ref 127], hO nS xs lg_236)) (am_cF_to (by with_unfolding_all rfl)) rfl (by with_unfolding_all rfl) ?_
  show am_Wp _ 102 65 _ _ _ _
  refine wp_step (e := (.putfield 33, 3, 9, 14, 129)) (q := (68, [.ref 127], [], hO nS xs lg_237)) (am_cF_to (by with_unfolding_all rfl)) rfl (by with_unfolding_all rfl) ?_
  show am_Wp _ 102 68 _ _ _ _
  refine wp_step (e := (.aload_n 0, 1, 0, 0, 0)) (q := (69, [.ref 127], [.ref 127], hO nS xs lg_237)) (am_cF_to (by with_unfolding_all rfl)) rfl (by with_unfolding_all rfl) ?_
  show am_Wp _ 102 69 _ _ _ _
  refine wp_step (e := (.bipush 10, 2, 0, 0, 0)) (q := (71, [.ref 127], [.int 10, .ref 127], hO nS xs lg_237)) (am_cF_to (by with_unfolding_all rfl)) rfl (by with_unfolding_all rfl) ?_
  show am_Wp _ 102 71 _ _ _ _
  refine wp_step (e := (.newarray .int, 2, 0, 0, 0)) (q := (73, [.ref 127], [.ref 136, .ref 127], hO nS xs lg_238)) (am_cF_to (by with_unfolding_all rfl)) rfl (by with_unfolding_all rfl) ?_
  show am_Wp _ 102 73 _ _ _ _
  refine wp_step (e := (.putfield 36, 3, 9, 15, 130)) (q := (76, [.ref 127], [], hO nS xs lg_239)) (am_cF_to (by with_unfolding_all rfl)) rfl (by with_unfolding_all rfl) ?_
  show am_Wp _ 102 76 _ _ _ _
  refine wp_step (e := (.aload_n 0, 1, 0, 0, 0)) (q := (77, [.ref 127], [.ref 127], hO nS xs lg_239)) (am_cF_to (by with_unfolding_all rfl)) rfl (by with_unfolding_all rfl) ?_
  show am_Wp _ 102 77 _ _ _ _
  refine wp_step (e := (.bipush 10, 2, 0, 0, 0)) (q := (79, [.ref 127], [.int 10, .ref 127], hO nS xs lg_239)) (am_cF_to (by with_unfolding_all rfl)) rfl (by with_unfolding_all rfl) ?_
  show am_Wp _ 102 79 _ _ _ _
  refine wp_step (e := (.newarray .int, 2, 0, 0, 0)) (q := (81, [.ref 127], [.ref 137, .ref 127], hO nS xs lg_240)) (am_cF_to (by with_unfolding_all rfl)) rfl (by with_unfolding_all rfl) ?_
  show am_Wp _ 102 81 _ _ _ _
  refine wp_step (e := (.putfield 39, 3, 9, 16, 131)) (q := (84, [.ref 127], [], hO nS xs lg_241)) (am_cF_to (by with_unfolding_all rfl)) rfl (by with_unfolding_all rfl) ?_
  show am_Wp _ 102 84 _ _ _ _
  refine wp_step (e := (.aload_n 0, 1, 0, 0, 0)) (q := (85, [.ref 127], [.ref 127], hO nS xs lg_241)) (am_cF_to (by with_unfolding_all rfl)) rfl (by with_unfolding_all rfl) ?_
  show am_Wp _ 102 85 _ _ _ _
  refine wp_step (e := (.bipush 80, 2, 0, 0, 0)) (q := (87, [.ref 127], [.int 80, .ref 127], hO nS xs lg_241)) (am_cF_to (by with_unfolding_all rfl)) rfl (by with_unfolding_all rfl) ?_
  show am_Wp _ 102 87 _ _ _ _
  refine wp_step (e := (.newarray .int, 2, 0, 0, 0)) (q := (89, [.ref 127], [.ref 138, .ref 127], hO nS xs lg_242)) (am_cF_to (by with_unfolding_all rfl)) rfl (by with_unfolding_all rfl) ?_
  show am_Wp _ 102 89 _ _ _ _
  refine wp_step (e := (.putfield 42, 3, 9, 17, 132)) (q := (92, [.ref 127], [], hO nS xs lg_243)) (am_cF_to (by with_unfolding_all rfl)) rfl (by with_unfolding_all rfl) ?_
  show am_Wp _ 102 92 _ _ _ _
  exact (eq_retV2 (e := (.return_, 1, 0, 0, 0)) (by with_unfolding_all rfl) rfl (by with_unfolding_all rfl)).mpr k
set_option maxRecDepth 20000 in
-- LarkExchange$World.<init> of [.ref 139]
theorem in_22 {d nS : Nat} {xs : Nat → Int32} {Q : Option Value → am_H → Prop} (k : Q none (hO nS xs lg_267)) : am_Wp (d + 1) 102 0 [.ref 139] [] (hO nS xs lg_245) Q := by
  refine wp_step (e := (.aload_n 0, 1, 0, 0, 0)) (q := (1, [.ref 139], [.ref 139], hO nS xs lg_245)) (am_cF_to (by with_unfolding_all rfl)) rfl (by with_unfolding_all rfl) ?_
  show am_Wp _ 102 1 _ _ _ _
  refine wp_obj (e := (.invokespecial 3, 3, 5, 0, 185)) (am_cF_to (by with_unfolding_all rfl)) rfl rfl (by decide) ?_
  show am_Wp _ 102 4 _ _ _ _
  refine wp_step (e := (.aload_n 0, 1, 0, 0, 0)) (q := (5, [.ref 139], [.ref 139], hO nS xs lg_245)) (am_cF_to (by with_unfolding_all rfl)) rfl (by with_unfolding_all rfl) ?_
  show am_Wp _ 102 5 _ _ _ _
  refine wp_step (e := (.bipush 6, 2, 0, 0, 0)) (q := (7, [.ref 139], [.int 6, .ref 139], hO nS xs lg_245)) (am_cF_to (by with_unfolding_all rfl)) rfl (by with_unfolding_all rfl) ?_
  show am_Wp _ 102 7 _ _ _ _
  refine wp_step (e := (.newarray .int, 2, 0, 0, 0)) (q := (9, [.ref 139], [.ref 140, .ref 139], hO nS xs lg_246)) (am_cF_to (by with_unfolding_all rfl)) rfl (by with_unfolding_all rfl) ?_
  show am_Wp _ 102 9 _ _ _ _
  refine wp_step (e := (.putfield 9, 3, 9, 7, 122)) (q := (12, [.ref 139], [], hO nS xs lg_247)) (am_cF_to (by with_unfolding_all rfl)) rfl (by with_unfolding_all rfl) ?_
  show am_Wp _ 102 12 _ _ _ _
  refine wp_step (e := (.aload_n 0, 1, 0, 0, 0)) (q := (13, [.ref 139], [.ref 139], hO nS xs lg_247)) (am_cF_to (by with_unfolding_all rfl)) rfl (by with_unfolding_all rfl) ?_
  show am_Wp _ 102 13 _ _ _ _
  refine wp_step (e := (.bipush 6, 2, 0, 0, 0)) (q := (15, [.ref 139], [.int 6, .ref 139], hO nS xs lg_247)) (am_cF_to (by with_unfolding_all rfl)) rfl (by with_unfolding_all rfl) ?_
  show am_Wp _ 102 15 _ _ _ _
  refine wp_step (e := (.newarray .int, 2, 0, 0, 0)) (q := (17, [.ref 139], [.ref 141, .ref 139], hO nS xs lg_248)) (am_cF_to (by with_unfolding_all rfl)) rfl (by with_unfolding_all rfl) ?_
  show am_Wp _ 102 17 _ _ _ _
  refine wp_step (e := (.putfield 15, 3, 9, 8, 123)) (q := (20, [.ref 139], [], hO nS xs lg_249)) (am_cF_to (by with_unfolding_all rfl)) rfl (by with_unfolding_all rfl) ?_
  show am_Wp _ 102 20 _ _ _ _
  refine wp_step (e := (.aload_n 0, 1, 0, 0, 0)) (q := (21, [.ref 139], [.ref 139], hO nS xs lg_249)) (am_cF_to (by with_unfolding_all rfl)) rfl (by with_unfolding_all rfl) ?_
  show am_Wp _ 102 21 _ _ _ _
  refine wp_step (e := (.bipush 6, 2, 0, 0, 0)) (q := (23, [.ref 139], [.int 6, .ref 139], hO nS xs lg_249)) (am_cF_to (by with_unfolding_all rfl)) rfl (by with_unfolding_all rfl) ?_
  show am_Wp _ 102 23 _ _ _ _
  refine wp_step (e := (.newarray .int, 2, 0, 0, 0)) (q := (25, [.ref 139], [.ref 142, .ref 139], hO nS xs lg_250)) (am_cF_to (by with_unfolding_all rfl)) rfl (by with_unfolding_all rfl) ?_
  show am_Wp _ 102 25 _ _ _ _
  refine wp_step (e := (.putfield 18, 3, 9, 9, 124)) (q := (28, [.ref 139], [], hO nS xs lg_251)) (am_cF_to (by with_unfolding_all rfl)) rfl (by with_unfolding_all rfl) ?_
  show am_Wp _ 102 28 _ _ _ _
  refine wp_step (e := (.aload_n 0, 1, 0, 0, 0)) (q := (29, [.ref 139], [.ref 139], hO nS xs lg_251)) (am_cF_to (by with_unfolding_all rfl)) rfl (by with_unfolding_all rfl) ?_
  show am_Wp _ 102 29 _ _ _ _
  refine wp_step (e := (.bipush 6, 2, 0, 0, 0)) (q := (31, [.ref 139], [.int 6, .ref 139], hO nS xs lg_251)) (am_cF_to (by with_unfolding_all rfl)) rfl (by with_unfolding_all rfl) ?_
  show am_Wp _ 102 31 _ _ _ _
  refine wp_step (e := (.newarray .int, 2, 0, 0, 0)) (q := (33, [.ref 139], [.ref 143, .ref 139], hO nS xs lg_252)) (am_cF_to (by with_unfolding_all rfl)) rfl (by with_unfolding_all rfl) ?_
  show am_Wp _ 102 33 _ _ _ _
  refine wp_step (e := (.putfield 21, 3, 9, 10, 125)) (q := (36, [.ref 139], [], hO nS xs lg_253)) (am_cF_to (by with_unfolding_all rfl)) rfl (by with_unfolding_all rfl) ?_
  show am_Wp _ 102 36 _ _ _ _
  refine wp_step (e := (.aload_n 0, 1, 0, 0, 0)) (q := (37, [.ref 139], [.ref 139], hO nS xs lg_253)) (am_cF_to (by with_unfolding_all rfl)) rfl (by with_unfolding_all rfl) ?_
  show am_Wp _ 102 37 _ _ _ _
  refine wp_step (e := (.bipush 6, 2, 0, 0, 0)) (q := (39, [.ref 139], [.int 6, .ref 139], hO nS xs lg_253)) (am_cF_to (by with_unfolding_all rfl)) rfl (by with_unfolding_all rfl) ?_
  show am_Wp _ 102 39 _ _ _ _
  refine wp_step (e := (.newarray .int, 2, 0, 0, 0)) (q := (41, [.ref 139], [.ref 144, .ref 139], hO nS xs lg_254)) (am_cF_to (by with_unfolding_all rfl)) rfl (by with_unfolding_all rfl) ?_
  show am_Wp _ 102 41 _ _ _ _
  refine wp_step (e := (.putfield 24, 3, 9, 11, 126)) (q := (44, [.ref 139], [], hO nS xs lg_255)) (am_cF_to (by with_unfolding_all rfl)) rfl (by with_unfolding_all rfl) ?_
  show am_Wp _ 102 44 _ _ _ _
  refine wp_step (e := (.aload_n 0, 1, 0, 0, 0)) (q := (45, [.ref 139], [.ref 139], hO nS xs lg_255)) (am_cF_to (by with_unfolding_all rfl)) rfl (by with_unfolding_all rfl) ?_
  show am_Wp _ 102 45 _ _ _ _
  refine wp_step (e := (.bipush 8, 2, 0, 0, 0)) (q := (47, [.ref 139], [.int 8, .ref 139], hO nS xs lg_255)) (am_cF_to (by with_unfolding_all rfl)) rfl (by with_unfolding_all rfl) ?_
  show am_Wp _ 102 47 _ _ _ _
  refine wp_step (e := (.newarray .int, 2, 0, 0, 0)) (q := (49, [.ref 139], [.ref 145, .ref 139], hO nS xs lg_256)) (am_cF_to (by with_unfolding_all rfl)) rfl (by with_unfolding_all rfl) ?_
  show am_Wp _ 102 49 _ _ _ _
  refine wp_step (e := (.putfield 27, 3, 9, 12, 127)) (q := (52, [.ref 139], [], hO nS xs lg_257)) (am_cF_to (by with_unfolding_all rfl)) rfl (by with_unfolding_all rfl) ?_
  show am_Wp _ 102 52 _ _ _ _
  refine wp_step (e := (.aload_n 0, 1, 0, 0, 0)) (q := (53, [.ref 139], [.ref 139], hO nS xs lg_257)) (am_cF_to (by with_unfolding_all rfl)) rfl (by with_unfolding_all rfl) ?_
  show am_Wp _ 102 53 _ _ _ _
  refine wp_step (e := (.bipush 8, 2, 0, 0, 0)) (q := (55, [.ref 139], [.int 8, .ref 139], hO nS xs lg_257)) (am_cF_to (by with_unfolding_all rfl)) rfl (by with_unfolding_all rfl) ?_
  show am_Wp _ 102 55 _ _ _ _
  refine wp_step (e := (.newarray .int, 2, 0, 0, 0)) (q := (57, [.ref 139], [.ref 146, .ref 139], hO nS xs lg_258)) (am_cF_to (by with_unfolding_all rfl)) rfl (by with_unfolding_all rfl) ?_
  show am_Wp _ 102 57 _ _ _ _
  refine wp_step (e := (.putfield 30, 3, 9, 13, 128)) (q := (60, [.ref 139], [], hO nS xs lg_259)) (am_cF_to (by with_unfolding_all rfl)) rfl (by with_unfolding_all rfl) ?_
  show am_Wp _ 102 60 _ _ _ _
  refine wp_step (e := (.aload_n 0, 1, 0, 0, 0)) (q := (61, [.ref 139], [.ref 139], hO nS xs lg_259)) (am_cF_to (by with_unfolding_all rfl)) rfl (by with_unfolding_all rfl) ?_
  show am_Wp _ 102 61 _ _ _ _
  refine wp_step (e := (.bipush 8, 2, 0, 0, 0)) (q := (63, [.ref 139], [.int 8, .ref 139], hO nS xs lg_259)) (am_cF_to (by with_unfolding_all rfl)) rfl (by with_unfolding_all rfl) ?_
  show am_Wp _ 102 63 _ _ _ _
  refine wp_step (e := (.newarray .int, 2, 0, 0, 0)) (q := (65, [.ref 139], [.ref 147, .ref 139], hO nS xs lg_260)) (am_cF_to (by with_unfolding_all rfl)) rfl (by with_unfolding_all rfl) ?_
  show am_Wp _ 102 65 _ _ _ _
  refine wp_step (e := (.putfield 33, 3, 9, 14, 129)) (q := (68, [.ref 139], [], hO nS xs lg_261)) (am_cF_to (by with_unfolding_all rfl)) rfl (by with_unfolding_all rfl) ?_
  show am_Wp _ 102 68 _ _ _ _
  refine wp_step (e := (.aload_n 0, 1, 0, 0, 0)) (q := (69, [.ref 139], [.ref 139], hO nS xs lg_261)) (am_cF_to (by with_unfolding_all rfl)) rfl (by with_unfolding_all rfl) ?_
  show am_Wp _ 102 69 _ _ _ _
  refine wp_step (e := (.bipush 10, 2, 0, 0, 0)) (q := (71, [.ref 139], [.int 10, .ref 139], hO nS xs lg_261)) (am_cF_to (by with_unfolding_all rfl)) rfl (by with_unfolding_all rfl) ?_
  show am_Wp _ 102 71 _ _ _ _
  refine wp_step (e := (.newarray .int, 2, 0, 0, 0)) (q := (73, [.ref 139], [.ref 148, .ref 139], hO nS xs lg_262)) (am_cF_to (by with_unfolding_all rfl)) rfl (by with_unfolding_all rfl) ?_
  show am_Wp _ 102 73 _ _ _ _
  refine wp_step (e := (.putfield 36, 3, 9, 15, 130)) (q := (76, [.ref 139], [], hO nS xs lg_263)) (am_cF_to (by with_unfolding_all rfl)) rfl (by with_unfolding_all rfl) ?_
  show am_Wp _ 102 76 _ _ _ _
  refine wp_step (e := (.aload_n 0, 1, 0, 0, 0)) (q := (77, [.ref 139], [.ref 139], hO nS xs lg_263)) (am_cF_to (by with_unfolding_all rfl)) rfl (by with_unfolding_all rfl) ?_
  show am_Wp _ 102 77 _ _ _ _
  refine wp_step (e := (.bipush 10, 2, 0, 0, 0)) (q := (79, [.ref 139], [.int 10, .ref 139], hO nS xs lg_263)) (am_cF_to (by with_unfolding_all rfl)) rfl (by with_unfolding_all rfl) ?_
  show am_Wp _ 102 79 _ _ _ _
  refine wp_step (e := (.newarray .int, 2, 0, 0, 0)) (q := (81, [.ref 139], [.ref 149, .ref 139], hO nS xs lg_264)) (am_cF_to (by with_unfolding_all rfl)) rfl (by with_unfolding_all rfl) ?_
  show am_Wp _ 102 81 _ _ _ _
  refine wp_step (e := (.putfield 39, 3, 9, 16, 131)) (q := (84, [.ref 139], [], hO nS xs lg_265)) (am_cF_to (by with_unfolding_all rfl)) rfl (by with_unfolding_all rfl) ?_
  show am_Wp _ 102 84 _ _ _ _
  refine wp_step (e := (.aload_n 0, 1, 0, 0, 0)) (q := (85, [.ref 139], [.ref 139], hO nS xs lg_265)) (am_cF_to (by with_unfolding_all rfl)) rfl (by with_unfolding_all rfl) ?_
  show am_Wp _ 102 85 _ _ _ _
  refine wp_step (e := (.bipush 80, 2, 0, 0, 0)) (q := (87, [.ref 139], [.int 80, .ref 139], hO nS xs lg_265)) (am_cF_to (by with_unfolding_all rfl)) rfl (by with_unfolding_all rfl) ?_
  show am_Wp _ 102 87 _ _ _ _
  refine wp_step (e := (.newarray .int, 2, 0, 0, 0)) (q := (89, [.ref 139], [.ref 150, .ref 139], hO nS xs lg_266)) (am_cF_to (by with_unfolding_all rfl)) rfl (by with_unfolding_all rfl) ?_
  show am_Wp _ 102 89 _ _ _ _
  refine wp_step (e := (.putfield 42, 3, 9, 17, 132)) (q := (92, [.ref 139], [], hO nS xs lg_267)) (am_cF_to (by with_unfolding_all rfl)) rfl (by with_unfolding_all rfl) ?_
  show am_Wp _ 102 92 _ _ _ _
  exact (eq_retV2 (e := (.return_, 1, 0, 0, 0)) (by with_unfolding_all rfl) rfl (by with_unfolding_all rfl)).mpr k
set_option maxRecDepth 20000 in
-- LarkExchange$World.<init> of [.ref 151]
theorem in_23 {d nS : Nat} {xs : Nat → Int32} {Q : Option Value → am_H → Prop} (k : Q none (hO nS xs lg_291)) : am_Wp (d + 1) 102 0 [.ref 151] [] (hO nS xs lg_269) Q := by
  refine wp_step (e := (.aload_n 0, 1, 0, 0, 0)) (q := (1, [.ref 151], [.ref 151], hO nS xs lg_269)) (am_cF_to (by with_unfolding_all rfl)) rfl (by with_unfolding_all rfl) ?_
  show am_Wp _ 102 1 _ _ _ _
  refine wp_obj (e := (.invokespecial 3, 3, 5, 0, 185)) (am_cF_to (by with_unfolding_all rfl)) rfl rfl (by decide) ?_
  show am_Wp _ 102 4 _ _ _ _
  refine wp_step (e := (.aload_n 0, 1, 0, 0, 0)) (q := (5, [.ref 151], [.ref 151], hO nS xs lg_269)) (am_cF_to (by with_unfolding_all rfl)) rfl (by with_unfolding_all rfl) ?_
  show am_Wp _ 102 5 _ _ _ _
  refine wp_step (e := (.bipush 6, 2, 0, 0, 0)) (q := (7, [.ref 151], [.int 6, .ref 151], hO nS xs lg_269)) (am_cF_to (by with_unfolding_all rfl)) rfl (by with_unfolding_all rfl) ?_
  show am_Wp _ 102 7 _ _ _ _
  refine wp_step (e := (.newarray .int, 2, 0, 0, 0)) (q := (9, [.ref 151], [.ref 152, .ref 151], hO nS xs lg_270)) (am_cF_to (by with_unfolding_all rfl)) rfl (by with_unfolding_all rfl) ?_
  show am_Wp _ 102 9 _ _ _ _
  refine wp_step (e := (.putfield 9, 3, 9, 7, 122)) (q := (12, [.ref 151], [], hO nS xs lg_271)) (am_cF_to (by with_unfolding_all rfl)) rfl (by with_unfolding_all rfl) ?_
  show am_Wp _ 102 12 _ _ _ _
  refine wp_step (e := (.aload_n 0, 1, 0, 0, 0)) (q := (13, [.ref 151], [.ref 151], hO nS xs lg_271)) (am_cF_to (by with_unfolding_all rfl)) rfl (by with_unfolding_all rfl) ?_
  show am_Wp _ 102 13 _ _ _ _
  refine wp_step (e := (.bipush 6, 2, 0, 0, 0)) (q := (15, [.ref 151], [.int 6, .ref 151], hO nS xs lg_271)) (am_cF_to (by with_unfolding_all rfl)) rfl (by with_unfolding_all rfl) ?_
  show am_Wp _ 102 15 _ _ _ _
  refine wp_step (e := (.newarray .int, 2, 0, 0, 0)) (q := (17, [.ref 151], [.ref 153, .ref 151], hO nS xs lg_272)) (am_cF_to (by with_unfolding_all rfl)) rfl (by with_unfolding_all rfl) ?_
  show am_Wp _ 102 17 _ _ _ _
  refine wp_step (e := (.putfield 15, 3, 9, 8, 123)) (q := (20, [.ref 151], [], hO nS xs lg_273)) (am_cF_to (by with_unfolding_all rfl)) rfl (by with_unfolding_all rfl) ?_
  show am_Wp _ 102 20 _ _ _ _
  refine wp_step (e := (.aload_n 0, 1, 0, 0, 0)) (q := (21, [.ref 151], [.ref 151], hO nS xs lg_273)) (am_cF_to (by with_unfolding_all rfl)) rfl (by with_unfolding_all rfl) ?_
  show am_Wp _ 102 21 _ _ _ _
  refine wp_step (e := (.bipush 6, 2, 0, 0, 0)) (q := (23, [.ref 151], [.int 6, .ref 151], hO nS xs lg_273)) (am_cF_to (by with_unfolding_all rfl)) rfl (by with_unfolding_all rfl) ?_
  show am_Wp _ 102 23 _ _ _ _
  refine wp_step (e := (.newarray .int, 2, 0, 0, 0)) (q := (25, [.ref 151], [.ref 154, .ref 151], hO nS xs lg_274)) (am_cF_to (by with_unfolding_all rfl)) rfl (by with_unfolding_all rfl) ?_
  show am_Wp _ 102 25 _ _ _ _
  refine wp_step (e := (.putfield 18, 3, 9, 9, 124)) (q := (28, [.ref 151], [], hO nS xs lg_275)) (am_cF_to (by with_unfolding_all rfl)) rfl (by with_unfolding_all rfl) ?_
  show am_Wp _ 102 28 _ _ _ _
  refine wp_step (e := (.aload_n 0, 1, 0, 0, 0)) (q := (29, [.ref 151], [.ref 151], hO nS xs lg_275)) (am_cF_to (by with_unfolding_all rfl)) rfl (by with_unfolding_all rfl) ?_
  show am_Wp _ 102 29 _ _ _ _
  refine wp_step (e := (.bipush 6, 2, 0, 0, 0)) (q := (31, [.ref 151], [.int 6, .ref 151], hO nS xs lg_275)) (am_cF_to (by with_unfolding_all rfl)) rfl (by with_unfolding_all rfl) ?_
  show am_Wp _ 102 31 _ _ _ _
  refine wp_step (e := (.newarray .int, 2, 0, 0, 0)) (q := (33, [.ref 151], [.ref 155, .ref 151], hO nS xs lg_276)) (am_cF_to (by with_unfolding_all rfl)) rfl (by with_unfolding_all rfl) ?_
  show am_Wp _ 102 33 _ _ _ _
  refine wp_step (e := (.putfield 21, 3, 9, 10, 125)) (q := (36, [.ref 151], [], hO nS xs lg_277)) (am_cF_to (by with_unfolding_all rfl)) rfl (by with_unfolding_all rfl) ?_
  show am_Wp _ 102 36 _ _ _ _
  refine wp_step (e := (.aload_n 0, 1, 0, 0, 0)) (q := (37, [.ref 151], [.ref 151], hO nS xs lg_277)) (am_cF_to (by with_unfolding_all rfl)) rfl (by with_unfolding_all rfl) ?_
  show am_Wp _ 102 37 _ _ _ _
  refine wp_step (e := (.bipush 6, 2, 0, 0, 0)) (q := (39, [.ref 151], [.int 6, .ref 151], hO nS xs lg_277)) (am_cF_to (by with_unfolding_all rfl)) rfl (by with_unfolding_all rfl) ?_
  show am_Wp _ 102 39 _ _ _ _
  refine wp_step (e := (.newarray .int, 2, 0, 0, 0)) (q := (41, [.ref 151], [.ref 156, .ref 151], hO nS xs lg_278)) (am_cF_to (by with_unfolding_all rfl)) rfl (by with_unfolding_all rfl) ?_
  show am_Wp _ 102 41 _ _ _ _
  refine wp_step (e := (.putfield 24, 3, 9, 11, 126)) (q := (44, [.ref 151], [], hO nS xs lg_279)) (am_cF_to (by with_unfolding_all rfl)) rfl (by with_unfolding_all rfl) ?_
  show am_Wp _ 102 44 _ _ _ _
  refine wp_step (e := (.aload_n 0, 1, 0, 0, 0)) (q := (45, [.ref 151], [.ref 151], hO nS xs lg_279)) (am_cF_to (by with_unfolding_all rfl)) rfl (by with_unfolding_all rfl) ?_
  show am_Wp _ 102 45 _ _ _ _
  refine wp_step (e := (.bipush 8, 2, 0, 0, 0)) (q := (47, [.ref 151], [.int 8, .ref 151], hO nS xs lg_279)) (am_cF_to (by with_unfolding_all rfl)) rfl (by with_unfolding_all rfl) ?_
  show am_Wp _ 102 47 _ _ _ _
  refine wp_step (e := (.newarray .int, 2, 0, 0, 0)) (q := (49, [.ref 151], [.ref 157, .ref 151], hO nS xs lg_280)) (am_cF_to (by with_unfolding_all rfl)) rfl (by with_unfolding_all rfl) ?_
  show am_Wp _ 102 49 _ _ _ _
  refine wp_step (e := (.putfield 27, 3, 9, 12, 127)) (q := (52, [.ref 151], [], hO nS xs lg_281)) (am_cF_to (by with_unfolding_all rfl)) rfl (by with_unfolding_all rfl) ?_
  show am_Wp _ 102 52 _ _ _ _
  refine wp_step (e := (.aload_n 0, 1, 0, 0, 0)) (q := (53, [.ref 151], [.ref 151], hO nS xs lg_281)) (am_cF_to (by with_unfolding_all rfl)) rfl (by with_unfolding_all rfl) ?_
  show am_Wp _ 102 53 _ _ _ _
  refine wp_step (e := (.bipush 8, 2, 0, 0, 0)) (q := (55, [.ref 151], [.int 8, .ref 151], hO nS xs lg_281)) (am_cF_to (by with_unfolding_all rfl)) rfl (by with_unfolding_all rfl) ?_
  show am_Wp _ 102 55 _ _ _ _
  refine wp_step (e := (.newarray .int, 2, 0, 0, 0)) (q := (57, [.ref 151], [.ref 158, .ref 151], hO nS xs lg_282)) (am_cF_to (by with_unfolding_all rfl)) rfl (by with_unfolding_all rfl) ?_
  show am_Wp _ 102 57 _ _ _ _
  refine wp_step (e := (.putfield 30, 3, 9, 13, 128)) (q := (60, [.ref 151], [], hO nS xs lg_283)) (am_cF_to (by with_unfolding_all rfl)) rfl (by with_unfolding_all rfl) ?_
  show am_Wp _ 102 60 _ _ _ _
  refine wp_step (e := (.aload_n 0, 1, 0, 0, 0)) (q := (61, [.ref 151], [.ref 151], hO nS xs lg_283)) (am_cF_to (by with_unfolding_all rfl)) rfl (by with_unfolding_all rfl) ?_
  show am_Wp _ 102 61 _ _ _ _
  refine wp_step (e := (.bipush 8, 2, 0, 0, 0)) (q := (63, [.ref 151], [.int 8, .ref 151], hO nS xs lg_283)) (am_cF_to (by with_unfolding_all rfl)) rfl (by with_unfolding_all rfl) ?_
  show am_Wp _ 102 63 _ _ _ _
  refine wp_step (e := (.newarray .int, 2, 0, 0, 0)) (q := (65, [.ref 151], [.ref 159, .ref 151], hO nS xs lg_284)) (am_cF_to (by with_unfolding_all rfl)) rfl (by with_unfolding_all rfl) ?_
  show am_Wp _ 102 65 _ _ _ _
  refine wp_step (e := (.putfield 33, 3, 9, 14, 129)) (q := (68, [.ref 151], [], hO nS xs lg_285)) (am_cF_to (by with_unfolding_all rfl)) rfl (by with_unfolding_all rfl) ?_
  show am_Wp _ 102 68 _ _ _ _
  refine wp_step (e := (.aload_n 0, 1, 0, 0, 0)) (q := (69, [.ref 151], [.ref 151], hO nS xs lg_285)) (am_cF_to (by with_unfolding_all rfl)) rfl (by with_unfolding_all rfl) ?_
  show am_Wp _ 102 69 _ _ _ _
  refine wp_step (e := (.bipush 10, 2, 0, 0, 0)) (q := (71, [.ref 151], [.int 10, .ref 151], hO nS xs lg_285)) (am_cF_to (by with_unfolding_all rfl)) rfl (by with_unfolding_all rfl) ?_
  show am_Wp _ 102 71 _ _ _ _
  refine wp_step (e := (.newarray .int, 2, 0, 0, 0)) (q := (73, [.ref 151], [.ref 160, .ref 151], hO nS xs lg_286)) (am_cF_to (by with_unfolding_all rfl)) rfl (by with_unfolding_all rfl) ?_
  show am_Wp _ 102 73 _ _ _ _
  refine wp_step (e := (.putfield 36, 3, 9, 15, 130)) (q := (76, [.ref 151], [], hO nS xs lg_287)) (am_cF_to (by with_unfolding_all rfl)) rfl (by with_unfolding_all rfl) ?_
  show am_Wp _ 102 76 _ _ _ _
  refine wp_step (e := (.aload_n 0, 1, 0, 0, 0)) (q := (77, [.ref 151], [.ref 151], hO nS xs lg_287)) (am_cF_to (by with_unfolding_all rfl)) rfl (by with_unfolding_all rfl) ?_
  show am_Wp _ 102 77 _ _ _ _
  refine wp_step (e := (.bipush 10, 2, 0, 0, 0)) (q := (79, [.ref 151], [.int 10, .ref 151], hO nS xs lg_287)) (am_cF_to (by with_unfolding_all rfl)) rfl (by with_unfolding_all rfl) ?_
  show am_Wp _ 102 79 _ _ _ _
  refine wp_step (e := (.newarray .int, 2, 0, 0, 0)) (q := (81, [.ref 151], [.ref 161, .ref 151], hO nS xs lg_288)) (am_cF_to (by with_unfolding_all rfl)) rfl (by with_unfolding_all rfl) ?_
  show am_Wp _ 102 81 _ _ _ _
  refine wp_step (e := (.putfield 39, 3, 9, 16, 131)) (q := (84, [.ref 151], [], hO nS xs lg_289)) (am_cF_to (by with_unfolding_all rfl)) rfl (by with_unfolding_all rfl) ?_
  show am_Wp _ 102 84 _ _ _ _
  refine wp_step (e := (.aload_n 0, 1, 0, 0, 0)) (q := (85, [.ref 151], [.ref 151], hO nS xs lg_289)) (am_cF_to (by with_unfolding_all rfl)) rfl (by with_unfolding_all rfl) ?_
  show am_Wp _ 102 85 _ _ _ _
  refine wp_step (e := (.bipush 80, 2, 0, 0, 0)) (q := (87, [.ref 151], [.int 80, .ref 151], hO nS xs lg_289)) (am_cF_to (by with_unfolding_all rfl)) rfl (by with_unfolding_all rfl) ?_
  show am_Wp _ 102 87 _ _ _ _
  refine wp_step (e := (.newarray .int, 2, 0, 0, 0)) (q := (89, [.ref 151], [.ref 162, .ref 151], hO nS xs lg_290)) (am_cF_to (by with_unfolding_all rfl)) rfl (by with_unfolding_all rfl) ?_
  show am_Wp _ 102 89 _ _ _ _
  refine wp_step (e := (.putfield 42, 3, 9, 17, 132)) (q := (92, [.ref 151], [], hO nS xs lg_291)) (am_cF_to (by with_unfolding_all rfl)) rfl (by with_unfolding_all rfl) ?_
  show am_Wp _ 102 92 _ _ _ _
  exact (eq_retV2 (e := (.return_, 1, 0, 0, 0)) (by with_unfolding_all rfl) rfl (by with_unfolding_all rfl)).mpr k
set_option maxRecDepth 20000 in
-- LarkExchange$World.<init> of [.ref 163]
theorem in_24 {d nS : Nat} {xs : Nat → Int32} {Q : Option Value → am_H → Prop} (k : Q none (hO nS xs lg_315)) : am_Wp (d + 1) 102 0 [.ref 163] [] (hO nS xs lg_293) Q := by
  refine wp_step (e := (.aload_n 0, 1, 0, 0, 0)) (q := (1, [.ref 163], [.ref 163], hO nS xs lg_293)) (am_cF_to (by with_unfolding_all rfl)) rfl (by with_unfolding_all rfl) ?_
  show am_Wp _ 102 1 _ _ _ _
  refine wp_obj (e := (.invokespecial 3, 3, 5, 0, 185)) (am_cF_to (by with_unfolding_all rfl)) rfl rfl (by decide) ?_
  show am_Wp _ 102 4 _ _ _ _
  refine wp_step (e := (.aload_n 0, 1, 0, 0, 0)) (q := (5, [.ref 163], [.ref 163], hO nS xs lg_293)) (am_cF_to (by with_unfolding_all rfl)) rfl (by with_unfolding_all rfl) ?_
  show am_Wp _ 102 5 _ _ _ _
  refine wp_step (e := (.bipush 6, 2, 0, 0, 0)) (q := (7, [.ref 163], [.int 6, .ref 163], hO nS xs lg_293)) (am_cF_to (by with_unfolding_all rfl)) rfl (by with_unfolding_all rfl) ?_
  show am_Wp _ 102 7 _ _ _ _
  refine wp_step (e := (.newarray .int, 2, 0, 0, 0)) (q := (9, [.ref 163], [.ref 164, .ref 163], hO nS xs lg_294)) (am_cF_to (by with_unfolding_all rfl)) rfl (by with_unfolding_all rfl) ?_
  show am_Wp _ 102 9 _ _ _ _
  refine wp_step (e := (.putfield 9, 3, 9, 7, 122)) (q := (12, [.ref 163], [], hO nS xs lg_295)) (am_cF_to (by with_unfolding_all rfl)) rfl (by with_unfolding_all rfl) ?_
  show am_Wp _ 102 12 _ _ _ _
  refine wp_step (e := (.aload_n 0, 1, 0, 0, 0)) (q := (13, [.ref 163], [.ref 163], hO nS xs lg_295)) (am_cF_to (by with_unfolding_all rfl)) rfl (by with_unfolding_all rfl) ?_
  show am_Wp _ 102 13 _ _ _ _
  refine wp_step (e := (.bipush 6, 2, 0, 0, 0)) (q := (15, [.ref 163], [.int 6, .ref 163], hO nS xs lg_295)) (am_cF_to (by with_unfolding_all rfl)) rfl (by with_unfolding_all rfl) ?_
  show am_Wp _ 102 15 _ _ _ _
  refine wp_step (e := (.newarray .int, 2, 0, 0, 0)) (q := (17, [.ref 163], [.ref 165, .ref 163], hO nS xs lg_296)) (am_cF_to (by with_unfolding_all rfl)) rfl (by with_unfolding_all rfl) ?_
  show am_Wp _ 102 17 _ _ _ _
  refine wp_step (e := (.putfield 15, 3, 9, 8, 123)) (q := (20, [.ref 163], [], hO nS xs lg_297)) (am_cF_to (by with_unfolding_all rfl)) rfl (by with_unfolding_all rfl) ?_
  show am_Wp _ 102 20 _ _ _ _
  refine wp_step (e := (.aload_n 0, 1, 0, 0, 0)) (q := (21, [.ref 163], [.ref 163], hO nS xs lg_297)) (am_cF_to (by with_unfolding_all rfl)) rfl (by with_unfolding_all rfl) ?_
  show am_Wp _ 102 21 _ _ _ _
  refine wp_step (e := (.bipush 6, 2, 0, 0, 0)) (q := (23, [.ref 163], [.int 6, .ref 163], hO nS xs lg_297)) (am_cF_to (by with_unfolding_all rfl)) rfl (by with_unfolding_all rfl) ?_
  show am_Wp _ 102 23 _ _ _ _
  refine wp_step (e := (.newarray .int, 2, 0, 0, 0)) (q := (25, [.ref 163], [.ref 166, .ref 163], hO nS xs lg_298)) (am_cF_to (by with_unfolding_all rfl)) rfl (by with_unfolding_all rfl) ?_
  show am_Wp _ 102 25 _ _ _ _
  refine wp_step (e := (.putfield 18, 3, 9, 9, 124)) (q := (28, [.ref 163], [], hO nS xs lg_299)) (am_cF_to (by with_unfolding_all rfl)) rfl (by with_unfolding_all rfl) ?_
  show am_Wp _ 102 28 _ _ _ _
  refine wp_step (e := (.aload_n 0, 1, 0, 0, 0)) (q := (29, [.ref 163], [.ref 163], hO nS xs lg_299)) (am_cF_to (by with_unfolding_all rfl)) rfl (by with_unfolding_all rfl) ?_
  show am_Wp _ 102 29 _ _ _ _
  refine wp_step (e := (.bipush 6, 2, 0, 0, 0)) (q := (31, [.ref 163], [.int 6, .ref 163], hO nS xs lg_299)) (am_cF_to (by with_unfolding_all rfl)) rfl (by with_unfolding_all rfl) ?_
  show am_Wp _ 102 31 _ _ _ _
  refine wp_step (e := (.newarray .int, 2, 0, 0, 0)) (q := (33, [.ref 163], [.ref 167, .ref 163], hO nS xs lg_300)) (am_cF_to (by with_unfolding_all rfl)) rfl (by with_unfolding_all rfl) ?_
  show am_Wp _ 102 33 _ _ _ _
  refine wp_step (e := (.putfield 21, 3, 9, 10, 125)) (q := (36, [.ref 163], [], hO nS xs lg_301)) (am_cF_to (by with_unfolding_all rfl)) rfl (by with_unfolding_all rfl) ?_
  show am_Wp _ 102 36 _ _ _ _
  refine wp_step (e := (.aload_n 0, 1, 0, 0, 0)) (q := (37, [.ref 163], [.ref 163], hO nS xs lg_301)) (am_cF_to (by with_unfolding_all rfl)) rfl (by with_unfolding_all rfl) ?_
  show am_Wp _ 102 37 _ _ _ _
  refine wp_step (e := (.bipush 6, 2, 0, 0, 0)) (q := (39, [.ref 163], [.int 6, .ref 163], hO nS xs lg_301)) (am_cF_to (by with_unfolding_all rfl)) rfl (by with_unfolding_all rfl) ?_
  show am_Wp _ 102 39 _ _ _ _
  refine wp_step (e := (.newarray .int, 2, 0, 0, 0)) (q := (41, [.ref 163], [.ref 168, .ref 163], hO nS xs lg_302)) (am_cF_to (by with_unfolding_all rfl)) rfl (by with_unfolding_all rfl) ?_
  show am_Wp _ 102 41 _ _ _ _
  refine wp_step (e := (.putfield 24, 3, 9, 11, 126)) (q := (44, [.ref 163], [], hO nS xs lg_303)) (am_cF_to (by with_unfolding_all rfl)) rfl (by with_unfolding_all rfl) ?_
  show am_Wp _ 102 44 _ _ _ _
  refine wp_step (e := (.aload_n 0, 1, 0, 0, 0)) (q := (45, [.ref 163], [.ref 163], hO nS xs lg_303)) (am_cF_to (by with_unfolding_all rfl)) rfl (by with_unfolding_all rfl) ?_
  show am_Wp _ 102 45 _ _ _ _
  refine wp_step (e := (.bipush 8, 2, 0, 0, 0)) (q := (47, [.ref 163], [.int 8, .ref 163], hO nS xs lg_303)) (am_cF_to (by with_unfolding_all rfl)) rfl (by with_unfolding_all rfl) ?_
  show am_Wp _ 102 47 _ _ _ _
  refine wp_step (e := (.newarray .int, 2, 0, 0, 0)) (q := (49, [.ref 163], [.ref 169, .ref 163], hO nS xs lg_304)) (am_cF_to (by with_unfolding_all rfl)) rfl (by with_unfolding_all rfl) ?_
  show am_Wp _ 102 49 _ _ _ _
  refine wp_step (e := (.putfield 27, 3, 9, 12, 127)) (q := (52, [.ref 163], [], hO nS xs lg_305)) (am_cF_to (by with_unfolding_all rfl)) rfl (by with_unfolding_all rfl) ?_
  show am_Wp _ 102 52 _ _ _ _
  refine wp_step (e := (.aload_n 0, 1, 0, 0, 0)) (q := (53, [.ref 163], [.ref 163], hO nS xs lg_305)) (am_cF_to (by with_unfolding_all rfl)) rfl (by with_unfolding_all rfl) ?_
  show am_Wp _ 102 53 _ _ _ _
  refine wp_step (e := (.bipush 8, 2, 0, 0, 0)) (q := (55, [.ref 163], [.int 8, .ref 163], hO nS xs lg_305)) (am_cF_to (by with_unfolding_all rfl)) rfl (by with_unfolding_all rfl) ?_
  show am_Wp _ 102 55 _ _ _ _
  refine wp_step (e := (.newarray .int, 2, 0, 0, 0)) (q := (57, [.ref 163], [.ref 170, .ref 163], hO nS xs lg_306)) (am_cF_to (by with_unfolding_all rfl)) rfl (by with_unfolding_all rfl) ?_
  show am_Wp _ 102 57 _ _ _ _
  refine wp_step (e := (.putfield 30, 3, 9, 13, 128)) (q := (60, [.ref 163], [], hO nS xs lg_307)) (am_cF_to (by with_unfolding_all rfl)) rfl (by with_unfolding_all rfl) ?_
  show am_Wp _ 102 60 _ _ _ _
  refine wp_step (e := (.aload_n 0, 1, 0, 0, 0)) (q := (61, [.ref 163], [.ref 163], hO nS xs lg_307)) (am_cF_to (by with_unfolding_all rfl)) rfl (by with_unfolding_all rfl) ?_
  show am_Wp _ 102 61 _ _ _ _
  refine wp_step (e := (.bipush 8, 2, 0, 0, 0)) (q := (63, [.ref 163], [.int 8, .ref 163], hO nS xs lg_307)) (am_cF_to (by with_unfolding_all rfl)) rfl (by with_unfolding_all rfl) ?_
  show am_Wp _ 102 63 _ _ _ _
  refine wp_step (e := (.newarray .int, 2, 0, 0, 0)) (q := (65, [.ref 163], [.ref 171, .ref 163], hO nS xs lg_308)) (am_cF_to (by with_unfolding_all rfl)) rfl (by with_unfolding_all rfl) ?_
  show am_Wp _ 102 65 _ _ _ _
  refine wp_step (e := (.putfield 33, 3, 9, 14, 129)) (q := (68, [.ref 163], [], hO nS xs lg_309)) (am_cF_to (by with_unfolding_all rfl)) rfl (by with_unfolding_all rfl) ?_
  show am_Wp _ 102 68 _ _ _ _
  refine wp_step (e := (.aload_n 0, 1, 0, 0, 0)) (q := (69, [.ref 163], [.ref 163], hO nS xs lg_309)) (am_cF_to (by with_unfolding_all rfl)) rfl (by with_unfolding_all rfl) ?_
  show am_Wp _ 102 69 _ _ _ _
  refine wp_step (e := (.bipush 10, 2, 0, 0, 0)) (q := (71, [.ref 163], [.int 10, .ref 163], hO nS xs lg_309)) (am_cF_to (by with_unfolding_all rfl)) rfl (by with_unfolding_all rfl) ?_
  show am_Wp _ 102 71 _ _ _ _
  refine wp_step (e := (.newarray .int, 2, 0, 0, 0)) (q := (73, [.ref 163], [.ref 172, .ref 163], hO nS xs lg_310)) (am_cF_to (by with_unfolding_all rfl)) rfl (by with_unfolding_all rfl) ?_
  show am_Wp _ 102 73 _ _ _ _
  refine wp_step (e := (.putfield 36, 3, 9, 15, 130)) (q := (76, [.ref 163], [], hO nS xs lg_311)) (am_cF_to (by with_unfolding_all rfl)) rfl (by with_unfolding_all rfl) ?_
  show am_Wp _ 102 76 _ _ _ _
  refine wp_step (e := (.aload_n 0, 1, 0, 0, 0)) (q := (77, [.ref 163], [.ref 163], hO nS xs lg_311)) (am_cF_to (by with_unfolding_all rfl)) rfl (by with_unfolding_all rfl) ?_
  show am_Wp _ 102 77 _ _ _ _
  refine wp_step (e := (.bipush 10, 2, 0, 0, 0)) (q := (79, [.ref 163], [.int 10, .ref 163], hO nS xs lg_311)) (am_cF_to (by with_unfolding_all rfl)) rfl (by with_unfolding_all rfl) ?_
  show am_Wp _ 102 79 _ _ _ _
  refine wp_step (e := (.newarray .int, 2, 0, 0, 0)) (q := (81, [.ref 163], [.ref 173, .ref 163], hO nS xs lg_312)) (am_cF_to (by with_unfolding_all rfl)) rfl (by with_unfolding_all rfl) ?_
  show am_Wp _ 102 81 _ _ _ _
  refine wp_step (e := (.putfield 39, 3, 9, 16, 131)) (q := (84, [.ref 163], [], hO nS xs lg_313)) (am_cF_to (by with_unfolding_all rfl)) rfl (by with_unfolding_all rfl) ?_
  show am_Wp _ 102 84 _ _ _ _
  refine wp_step (e := (.aload_n 0, 1, 0, 0, 0)) (q := (85, [.ref 163], [.ref 163], hO nS xs lg_313)) (am_cF_to (by with_unfolding_all rfl)) rfl (by with_unfolding_all rfl) ?_
  show am_Wp _ 102 85 _ _ _ _
  refine wp_step (e := (.bipush 80, 2, 0, 0, 0)) (q := (87, [.ref 163], [.int 80, .ref 163], hO nS xs lg_313)) (am_cF_to (by with_unfolding_all rfl)) rfl (by with_unfolding_all rfl) ?_
  show am_Wp _ 102 87 _ _ _ _
  refine wp_step (e := (.newarray .int, 2, 0, 0, 0)) (q := (89, [.ref 163], [.ref 174, .ref 163], hO nS xs lg_314)) (am_cF_to (by with_unfolding_all rfl)) rfl (by with_unfolding_all rfl) ?_
  show am_Wp _ 102 89 _ _ _ _
  refine wp_step (e := (.putfield 42, 3, 9, 17, 132)) (q := (92, [.ref 163], [], hO nS xs lg_315)) (am_cF_to (by with_unfolding_all rfl)) rfl (by with_unfolding_all rfl) ?_
  show am_Wp _ 102 92 _ _ _ _
  exact (eq_retV2 (e := (.return_, 1, 0, 0, 0)) (by with_unfolding_all rfl) rfl (by with_unfolding_all rfl)).mpr k
set_option maxRecDepth 20000 in
-- LarkExchange$World.<init> of [.ref 175]
theorem in_25 {d nS : Nat} {xs : Nat → Int32} {Q : Option Value → am_H → Prop} (k : Q none (hO nS xs lg_339)) : am_Wp (d + 1) 102 0 [.ref 175] [] (hO nS xs lg_317) Q := by
  refine wp_step (e := (.aload_n 0, 1, 0, 0, 0)) (q := (1, [.ref 175], [.ref 175], hO nS xs lg_317)) (am_cF_to (by with_unfolding_all rfl)) rfl (by with_unfolding_all rfl) ?_
  show am_Wp _ 102 1 _ _ _ _
  refine wp_obj (e := (.invokespecial 3, 3, 5, 0, 185)) (am_cF_to (by with_unfolding_all rfl)) rfl rfl (by decide) ?_
  show am_Wp _ 102 4 _ _ _ _
  refine wp_step (e := (.aload_n 0, 1, 0, 0, 0)) (q := (5, [.ref 175], [.ref 175], hO nS xs lg_317)) (am_cF_to (by with_unfolding_all rfl)) rfl (by with_unfolding_all rfl) ?_
  show am_Wp _ 102 5 _ _ _ _
  refine wp_step (e := (.bipush 6, 2, 0, 0, 0)) (q := (7, [.ref 175], [.int 6, .ref 175], hO nS xs lg_317)) (am_cF_to (by with_unfolding_all rfl)) rfl (by with_unfolding_all rfl) ?_
  show am_Wp _ 102 7 _ _ _ _
  refine wp_step (e := (.newarray .int, 2, 0, 0, 0)) (q := (9, [.ref 175], [.ref 176, .ref 175], hO nS xs lg_318)) (am_cF_to (by with_unfolding_all rfl)) rfl (by with_unfolding_all rfl) ?_
  show am_Wp _ 102 9 _ _ _ _
  refine wp_step (e := (.putfield 9, 3, 9, 7, 122)) (q := (12, [.ref 175], [], hO nS xs lg_319)) (am_cF_to (by with_unfolding_all rfl)) rfl (by with_unfolding_all rfl) ?_
  show am_Wp _ 102 12 _ _ _ _
  refine wp_step (e := (.aload_n 0, 1, 0, 0, 0)) (q := (13, [.ref 175], [.ref 175], hO nS xs lg_319)) (am_cF_to (by with_unfolding_all rfl)) rfl (by with_unfolding_all rfl) ?_
  show am_Wp _ 102 13 _ _ _ _
  refine wp_step (e := (.bipush 6, 2, 0, 0, 0)) (q := (15, [.ref 175], [.int 6, .ref 175], hO nS xs lg_319)) (am_cF_to (by with_unfolding_all rfl)) rfl (by with_unfolding_all rfl) ?_
  show am_Wp _ 102 15 _ _ _ _
  refine wp_step (e := (.newarray .int, 2, 0, 0, 0)) (q := (17, [.ref 175], [.ref 177, .ref 175], hO nS xs lg_320)) (am_cF_to (by with_unfolding_all rfl)) rfl (by with_unfolding_all rfl) ?_
  show am_Wp _ 102 17 _ _ _ _
  refine wp_step (e := (.putfield 15, 3, 9, 8, 123)) (q := (20, [.ref 175], [], hO nS xs lg_321)) (am_cF_to (by with_unfolding_all rfl)) rfl (by with_unfolding_all rfl) ?_
  show am_Wp _ 102 20 _ _ _ _
  refine wp_step (e := (.aload_n 0, 1, 0, 0, 0)) (q := (21, [.ref 175], [.ref 175], hO nS xs lg_321)) (am_cF_to (by with_unfolding_all rfl)) rfl (by with_unfolding_all rfl) ?_
  show am_Wp _ 102 21 _ _ _ _
  refine wp_step (e := (.bipush 6, 2, 0, 0, 0)) (q := (23, [.ref 175], [.int 6, .ref 175], hO nS xs lg_321)) (am_cF_to (by with_unfolding_all rfl)) rfl (by with_unfolding_all rfl) ?_
  show am_Wp _ 102 23 _ _ _ _
  refine wp_step (e := (.newarray .int, 2, 0, 0, 0)) (q := (25, [.ref 175], [.ref 178, .ref 175], hO nS xs lg_322)) (am_cF_to (by with_unfolding_all rfl)) rfl (by with_unfolding_all rfl) ?_
  show am_Wp _ 102 25 _ _ _ _
  refine wp_step (e := (.putfield 18, 3, 9, 9, 124)) (q := (28, [.ref 175], [], hO nS xs lg_323)) (am_cF_to (by with_unfolding_all rfl)) rfl (by with_unfolding_all rfl) ?_
  show am_Wp _ 102 28 _ _ _ _
  refine wp_step (e := (.aload_n 0, 1, 0, 0, 0)) (q := (29, [.ref 175], [.ref 175], hO nS xs lg_323)) (am_cF_to (by with_unfolding_all rfl)) rfl (by with_unfolding_all rfl) ?_
  show am_Wp _ 102 29 _ _ _ _
  refine wp_step (e := (.bipush 6, 2, 0, 0, 0)) (q := (31, [.ref 175], [.int 6, .ref 175], hO nS xs lg_323)) (am_cF_to (by with_unfolding_all rfl)) rfl (by with_unfolding_all rfl) ?_
  show am_Wp _ 102 31 _ _ _ _
  refine wp_step (e := (.newarray .int, 2, 0, 0, 0)) (q := (33, [.ref 175], [.ref 179, .ref 175], hO nS xs lg_324)) (am_cF_to (by with_unfolding_all rfl)) rfl (by with_unfolding_all rfl) ?_
  show am_Wp _ 102 33 _ _ _ _
  refine wp_step (e := (.putfield 21, 3, 9, 10, 125)) (q := (36, [.ref 175], [], hO nS xs lg_325)) (am_cF_to (by with_unfolding_all rfl)) rfl (by with_unfolding_all rfl) ?_
  show am_Wp _ 102 36 _ _ _ _
  refine wp_step (e := (.aload_n 0, 1, 0, 0, 0)) (q := (37, [.ref 175], [.ref 175], hO nS xs lg_325)) (am_cF_to (by with_unfolding_all rfl)) rfl (by with_unfolding_all rfl) ?_
  show am_Wp _ 102 37 _ _ _ _
  refine wp_step (e := (.bipush 6, 2, 0, 0, 0)) (q := (39, [.ref 175], [.int 6, .ref 175], hO nS xs lg_325)) (am_cF_to (by with_unfolding_all rfl)) rfl (by with_unfolding_all rfl) ?_
  show am_Wp _ 102 39 _ _ _ _
  refine wp_step (e := (.newarray .int, 2, 0, 0, 0)) (q := (41, [.ref 175], [.ref 180, .ref 175], hO nS xs lg_326)) (am_cF_to (by with_unfolding_all rfl)) rfl (by with_unfolding_all rfl) ?_
  show am_Wp _ 102 41 _ _ _ _
  refine wp_step (e := (.putfield 24, 3, 9, 11, 126)) (q := (44, [.ref 175], [], hO nS xs lg_327)) (am_cF_to (by with_unfolding_all rfl)) rfl (by with_unfolding_all rfl) ?_
  show am_Wp _ 102 44 _ _ _ _
  refine wp_step (e := (.aload_n 0, 1, 0, 0, 0)) (q := (45, [.ref 175], [.ref 175], hO nS xs lg_327)) (am_cF_to (by with_unfolding_all rfl)) rfl (by with_unfolding_all rfl) ?_
  show am_Wp _ 102 45 _ _ _ _
  refine wp_step (e := (.bipush 8, 2, 0, 0, 0)) (q := (47, [.ref 175], [.int 8, .ref 175], hO nS xs lg_327)) (am_cF_to (by with_unfolding_all rfl)) rfl (by with_unfolding_all rfl) ?_
  show am_Wp _ 102 47 _ _ _ _
  refine wp_step (e := (.newarray .int, 2, 0, 0, 0)) (q := (49, [.ref 175], [.ref 181, .ref 175], hO nS xs lg_328)) (am_cF_to (by with_unfolding_all rfl)) rfl (by with_unfolding_all rfl) ?_
  show am_Wp _ 102 49 _ _ _ _
  refine wp_step (e := (.putfield 27, 3, 9, 12, 127)) (q := (52, [.ref 175], [], hO nS xs lg_329)) (am_cF_to (by with_unfolding_all rfl)) rfl (by with_unfolding_all rfl) ?_
  show am_Wp _ 102 52 _ _ _ _
  refine wp_step (e := (.aload_n 0, 1, 0, 0, 0)) (q := (53, [.ref 175], [.ref 175], hO nS xs lg_329)) (am_cF_to (by with_unfolding_all rfl)) rfl (by with_unfolding_all rfl) ?_
  show am_Wp _ 102 53 _ _ _ _
  refine wp_step (e := (.bipush 8, 2, 0, 0, 0)) (q := (55, [.ref 175], [.int 8, .ref 175], hO nS xs lg_329)) (am_cF_to (by with_unfolding_all rfl)) rfl (by with_unfolding_all rfl) ?_
  show am_Wp _ 102 55 _ _ _ _
  refine wp_step (e := (.newarray .int, 2, 0, 0, 0)) (q := (57, [.ref 175], [.ref 182, .ref 175], hO nS xs lg_330)) (am_cF_to (by with_unfolding_all rfl)) rfl (by with_unfolding_all rfl) ?_
  show am_Wp _ 102 57 _ _ _ _
  refine wp_step (e := (.putfield 30, 3, 9, 13, 128)) (q := (60, [.ref 175], [], hO nS xs lg_331)) (am_cF_to (by with_unfolding_all rfl)) rfl (by with_unfolding_all rfl) ?_
  show am_Wp _ 102 60 _ _ _ _
  refine wp_step (e := (.aload_n 0, 1, 0, 0, 0)) (q := (61, [.ref 175], [.ref 175], hO nS xs lg_331)) (am_cF_to (by with_unfolding_all rfl)) rfl (by with_unfolding_all rfl) ?_
  show am_Wp _ 102 61 _ _ _ _
  refine wp_step (e := (.bipush 8, 2, 0, 0, 0)) (q := (63, [.ref 175], [.int 8, .ref 175], hO nS xs lg_331)) (am_cF_to (by with_unfolding_all rfl)) rfl (by with_unfolding_all rfl) ?_
  show am_Wp _ 102 63 _ _ _ _
  refine wp_step (e := (.newarray .int, 2, 0, 0, 0)) (q := (65, [.ref 175], [.ref 183, .ref 175], hO nS xs lg_332)) (am_cF_to (by with_unfolding_all rfl)) rfl (by with_unfolding_all rfl) ?_
  show am_Wp _ 102 65 _ _ _ _
  refine wp_step (e := (.putfield 33, 3, 9, 14, 129)) (q := (68, [.ref 175], [], hO nS xs lg_333)) (am_cF_to (by with_unfolding_all rfl)) rfl (by with_unfolding_all rfl) ?_
  show am_Wp _ 102 68 _ _ _ _
  refine wp_step (e := (.aload_n 0, 1, 0, 0, 0)) (q := (69, [.ref 175], [.ref 175], hO nS xs lg_333)) (am_cF_to (by with_unfolding_all rfl)) rfl (by with_unfolding_all rfl) ?_
  show am_Wp _ 102 69 _ _ _ _
  refine wp_step (e := (.bipush 10, 2, 0, 0, 0)) (q := (71, [.ref 175], [.int 10, .ref 175], hO nS xs lg_333)) (am_cF_to (by with_unfolding_all rfl)) rfl (by with_unfolding_all rfl) ?_
  show am_Wp _ 102 71 _ _ _ _
  refine wp_step (e := (.newarray .int, 2, 0, 0, 0)) (q := (73, [.ref 175], [.ref 184, .ref 175], hO nS xs lg_334)) (am_cF_to (by with_unfolding_all rfl)) rfl (by with_unfolding_all rfl) ?_
  show am_Wp _ 102 73 _ _ _ _
  refine wp_step (e := (.putfield 36, 3, 9, 15, 130)) (q := (76, [.ref 175], [], hO nS xs lg_335)) (am_cF_to (by with_unfolding_all rfl)) rfl (by with_unfolding_all rfl) ?_
  show am_Wp _ 102 76 _ _ _ _
  refine wp_step (e := (.aload_n 0, 1, 0, 0, 0)) (q := (77, [.ref 175], [.ref 175], hO nS xs lg_335)) (am_cF_to (by with_unfolding_all rfl)) rfl (by with_unfolding_all rfl) ?_
  show am_Wp _ 102 77 _ _ _ _
  refine wp_step (e := (.bipush 10, 2, 0, 0, 0)) (q := (79, [.ref 175], [.int 10, .ref 175], hO nS xs lg_335)) (am_cF_to (by with_unfolding_all rfl)) rfl (by with_unfolding_all rfl) ?_
  show am_Wp _ 102 79 _ _ _ _
  refine wp_step (e := (.newarray .int, 2, 0, 0, 0)) (q := (81, [.ref 175], [.ref 185, .ref 175], hO nS xs lg_336)) (am_cF_to (by with_unfolding_all rfl)) rfl (by with_unfolding_all rfl) ?_
  show am_Wp _ 102 81 _ _ _ _
  refine wp_step (e := (.putfield 39, 3, 9, 16, 131)) (q := (84, [.ref 175], [], hO nS xs lg_337)) (am_cF_to (by with_unfolding_all rfl)) rfl (by with_unfolding_all rfl) ?_
  show am_Wp _ 102 84 _ _ _ _
  refine wp_step (e := (.aload_n 0, 1, 0, 0, 0)) (q := (85, [.ref 175], [.ref 175], hO nS xs lg_337)) (am_cF_to (by with_unfolding_all rfl)) rfl (by with_unfolding_all rfl) ?_
  show am_Wp _ 102 85 _ _ _ _
  refine wp_step (e := (.bipush 80, 2, 0, 0, 0)) (q := (87, [.ref 175], [.int 80, .ref 175], hO nS xs lg_337)) (am_cF_to (by with_unfolding_all rfl)) rfl (by with_unfolding_all rfl) ?_
  show am_Wp _ 102 87 _ _ _ _
  refine wp_step (e := (.newarray .int, 2, 0, 0, 0)) (q := (89, [.ref 175], [.ref 186, .ref 175], hO nS xs lg_338)) (am_cF_to (by with_unfolding_all rfl)) rfl (by with_unfolding_all rfl) ?_
  show am_Wp _ 102 89 _ _ _ _
  refine wp_step (e := (.putfield 42, 3, 9, 17, 132)) (q := (92, [.ref 175], [], hO nS xs lg_339)) (am_cF_to (by with_unfolding_all rfl)) rfl (by with_unfolding_all rfl) ?_
  show am_Wp _ 102 92 _ _ _ _
  exact (eq_retV2 (e := (.return_, 1, 0, 0, 0)) (by with_unfolding_all rfl) rfl (by with_unfolding_all rfl)).mpr k
set_option maxRecDepth 20000 in
-- LarkExchange$Past.<init> of [.ref 113]
theorem in_26 {d nS : Nat} {xs : Nat → Int32} {Q : Option Value → am_H → Prop} (k : Q none (hO nS xs lg_340)) : am_Wp (d + 2) 36 0 [.ref 113, .retAddr 0] [] (hO nS xs lg_194) Q := by
  refine wp_step (e := (.aload_n 0, 1, 0, 0, 0)) (q := (1, [.ref 113, .retAddr 0], [.ref 113], hO nS xs lg_194)) (am_cF_to (by with_unfolding_all rfl)) rfl (by with_unfolding_all rfl) ?_
  show am_Wp _ 36 1 _ _ _ _
  refine wp_obj (e := (.invokespecial 1, 3, 5, 0, 96)) (am_cF_to (by with_unfolding_all rfl)) rfl rfl (by decide) ?_
  show am_Wp _ 36 4 _ _ _ _
  refine wp_step (e := (.aload_n 0, 1, 0, 0, 0)) (q := (5, [.ref 113, .retAddr 0], [.ref 113], hO nS xs lg_194)) (am_cF_to (by with_unfolding_all rfl)) rfl (by with_unfolding_all rfl) ?_
  show am_Wp _ 36 5 _ _ _ _
  refine wp_step (e := (.bipush 6, 2, 0, 0, 0)) (q := (7, [.ref 113, .retAddr 0], [.int 6, .ref 113], hO nS xs lg_194)) (am_cF_to (by with_unfolding_all rfl)) rfl (by with_unfolding_all rfl) ?_
  show am_Wp _ 36 7 _ _ _ _
  refine wp_step (e := (.anewarray 9, 3, 9, 0, 5)) (q := (10, [.ref 113, .retAddr 0], [.ref 114, .ref 113], hO nS xs lg_195)) (am_cF_to (by with_unfolding_all rfl)) rfl (by with_unfolding_all rfl) ?_
  show am_Wp _ 36 10 _ _ _ _
  refine wp_step (e := (.putfield 11, 3, 4, 0, 71)) (q := (13, [.ref 113, .retAddr 0], [], hO nS xs lg_196)) (am_cF_to (by with_unfolding_all rfl)) rfl (by with_unfolding_all rfl) ?_
  show am_Wp _ 36 13 _ _ _ _
  refine wp_step (e := (.iconst 0, 1, 0, 0, 0)) (q := (14, [.ref 113, .retAddr 0], [.int 0], hO nS xs lg_196)) (am_cF_to (by with_unfolding_all rfl)) rfl (by with_unfolding_all rfl) ?_
  show am_Wp _ 36 14 _ _ _ _
  refine wp_step (e := (.istore_n 1, 1, 0, 0, 0)) (q := (15, [.ref 113, .int 0], [], hO nS xs lg_196)) (am_cF_to (by with_unfolding_all rfl)) rfl (by with_unfolding_all rfl) ?_
  show am_Wp _ 36 15 _ _ _ _
  refine wp_step (e := (.iload_n 1, 1, 0, 0, 0)) (q := (16, [.ref 113, .int 0], [.int 0], hO nS xs lg_196)) (am_cF_to (by with_unfolding_all rfl)) rfl (by with_unfolding_all rfl) ?_
  show am_Wp _ 36 16 _ _ _ _
  refine wp_step (e := (.bipush 6, 2, 0, 0, 0)) (q := (18, [.ref 113, .int 0], [.int 6, .int 0], hO nS xs lg_196)) (am_cF_to (by with_unfolding_all rfl)) rfl (by with_unfolding_all rfl) ?_
  show am_Wp _ 36 18 _ _ _ _
  refine (eq_cmp_ge (by with_unfolding_all rfl)).mpr ?_
  rw [if_neg (by decide)]
  show am_Wp _ 36 21 _ _ _ _
  refine wp_step (e := (.aload_n 0, 1, 0, 0, 0)) (q := (22, [.ref 113, .int 0], [.ref 113], hO nS xs lg_196)) (am_cF_to (by with_unfolding_all rfl)) rfl (by with_unfolding_all rfl) ?_
  show am_Wp _ 36 22 _ _ _ _
  refine wp_step (e := (.getfield 11, 3, 4, 0, 71)) (q := (25, [.ref 113, .int 0], [.ref 114], hO nS xs lg_196)) (am_cF_to (by with_unfolding_all rfl)) rfl (by with_unfolding_all rfl) ?_
  show am_Wp _ 36 25 _ _ _ _
  refine wp_step (e := (.iload_n 1, 1, 0, 0, 0)) (q := (26, [.ref 113, .int 0], [.int 0, .ref 114], hO nS xs lg_196)) (am_cF_to (by with_unfolding_all rfl)) rfl (by with_unfolding_all rfl) ?_
  show am_Wp _ 36 26 _ _ _ _
  refine wp_step (e := (.new 9, 3, 9, 0, 5)) (q := (29, [.ref 113, .int 0], [.ref 115, .int 0, .ref 114], hO nS xs lg_197)) (am_cF_to (by with_unfolding_all rfl)) rfl (by with_unfolding_all rfl) ?_
  show am_Wp _ 36 29 _ _ _ _
  refine wp_step (e := (.dup, 1, 0, 0, 0)) (q := (30, [.ref 113, .int 0], [.ref 115, .ref 115, .int 0, .ref 114], hO nS xs lg_197)) (am_cF_to (by with_unfolding_all rfl)) rfl (by with_unfolding_all rfl) ?_
  show am_Wp _ 36 30 _ _ _ _
  refine (eq_call2 (e := (.invokespecial 15, 3, 4, 102, 97)) (as := [.ref 115]) (r := [.ref 115, .int 0, .ref 114]) (n := 1) (m := 1) (by with_unfolding_all rfl) rfl (by decide) (by with_unfolding_all rfl) (by decide) (by with_unfolding_all rfl) ⟨fun z => absurd z (by decide), fun _ => rfl⟩).mpr ?_
  refine in_20 (d := d) ?_
  show am_Wp _ 36 33 _ _ _ _
  refine wp_step (e := (.aastore, 1, 0, 0, 0)) (q := (34, [.ref 113, .int 0], [], hO nS xs lg_220)) (am_cF_to (by with_unfolding_all rfl)) rfl (by with_unfolding_all rfl) ?_
  show am_Wp _ 36 34 _ _ _ _
  refine wp_step (e := (.iinc 1 1, 3, 0, 0, 0)) (q := (37, [.ref 113, .int 1], [], hO nS xs lg_220)) (am_cF_to (by with_unfolding_all rfl)) rfl (by with_unfolding_all rfl) ?_
  show am_Wp _ 36 37 _ _ _ _
  refine wp_step (e := (.goto (-22), 3, 15, 0, 0)) (q := (15, [.ref 113, .int 1], [], hO nS xs lg_220)) (am_cF_to (by with_unfolding_all rfl)) rfl (by with_unfolding_all rfl) ?_
  show am_Wp _ 36 15 _ _ _ _
  refine wp_step (e := (.iload_n 1, 1, 0, 0, 0)) (q := (16, [.ref 113, .int 1], [.int 1], hO nS xs lg_220)) (am_cF_to (by with_unfolding_all rfl)) rfl (by with_unfolding_all rfl) ?_
  show am_Wp _ 36 16 _ _ _ _
  refine wp_step (e := (.bipush 6, 2, 0, 0, 0)) (q := (18, [.ref 113, .int 1], [.int 6, .int 1], hO nS xs lg_220)) (am_cF_to (by with_unfolding_all rfl)) rfl (by with_unfolding_all rfl) ?_
  show am_Wp _ 36 18 _ _ _ _
  refine (eq_cmp_ge (by with_unfolding_all rfl)).mpr ?_
  rw [if_neg (by decide)]
  show am_Wp _ 36 21 _ _ _ _
  refine wp_step (e := (.aload_n 0, 1, 0, 0, 0)) (q := (22, [.ref 113, .int 1], [.ref 113], hO nS xs lg_220)) (am_cF_to (by with_unfolding_all rfl)) rfl (by with_unfolding_all rfl) ?_
  show am_Wp _ 36 22 _ _ _ _
  refine wp_step (e := (.getfield 11, 3, 4, 0, 71)) (q := (25, [.ref 113, .int 1], [.ref 114], hO nS xs lg_220)) (am_cF_to (by with_unfolding_all rfl)) rfl (by with_unfolding_all rfl) ?_
  show am_Wp _ 36 25 _ _ _ _
  refine wp_step (e := (.iload_n 1, 1, 0, 0, 0)) (q := (26, [.ref 113, .int 1], [.int 1, .ref 114], hO nS xs lg_220)) (am_cF_to (by with_unfolding_all rfl)) rfl (by with_unfolding_all rfl) ?_
  show am_Wp _ 36 26 _ _ _ _
  refine wp_step (e := (.new 9, 3, 9, 0, 5)) (q := (29, [.ref 113, .int 1], [.ref 127, .int 1, .ref 114], hO nS xs lg_221)) (am_cF_to (by with_unfolding_all rfl)) rfl (by with_unfolding_all rfl) ?_
  show am_Wp _ 36 29 _ _ _ _
  refine wp_step (e := (.dup, 1, 0, 0, 0)) (q := (30, [.ref 113, .int 1], [.ref 127, .ref 127, .int 1, .ref 114], hO nS xs lg_221)) (am_cF_to (by with_unfolding_all rfl)) rfl (by with_unfolding_all rfl) ?_
  show am_Wp _ 36 30 _ _ _ _
  refine (eq_call2 (e := (.invokespecial 15, 3, 4, 102, 97)) (as := [.ref 127]) (r := [.ref 127, .int 1, .ref 114]) (n := 1) (m := 1) (by with_unfolding_all rfl) rfl (by decide) (by with_unfolding_all rfl) (by decide) (by with_unfolding_all rfl) ⟨fun z => absurd z (by decide), fun _ => rfl⟩).mpr ?_
  refine in_21 (d := d) ?_
  show am_Wp _ 36 33 _ _ _ _
  refine wp_step (e := (.aastore, 1, 0, 0, 0)) (q := (34, [.ref 113, .int 1], [], hO nS xs lg_244)) (am_cF_to (by with_unfolding_all rfl)) rfl (by with_unfolding_all rfl) ?_
  show am_Wp _ 36 34 _ _ _ _
  refine wp_step (e := (.iinc 1 1, 3, 0, 0, 0)) (q := (37, [.ref 113, .int 2], [], hO nS xs lg_244)) (am_cF_to (by with_unfolding_all rfl)) rfl (by with_unfolding_all rfl) ?_
  show am_Wp _ 36 37 _ _ _ _
  refine wp_step (e := (.goto (-22), 3, 15, 0, 0)) (q := (15, [.ref 113, .int 2], [], hO nS xs lg_244)) (am_cF_to (by with_unfolding_all rfl)) rfl (by with_unfolding_all rfl) ?_
  show am_Wp _ 36 15 _ _ _ _
  refine wp_step (e := (.iload_n 1, 1, 0, 0, 0)) (q := (16, [.ref 113, .int 2], [.int 2], hO nS xs lg_244)) (am_cF_to (by with_unfolding_all rfl)) rfl (by with_unfolding_all rfl) ?_
  show am_Wp _ 36 16 _ _ _ _
  refine wp_step (e := (.bipush 6, 2, 0, 0, 0)) (q := (18, [.ref 113, .int 2], [.int 6, .int 2], hO nS xs lg_244)) (am_cF_to (by with_unfolding_all rfl)) rfl (by with_unfolding_all rfl) ?_
  show am_Wp _ 36 18 _ _ _ _
  refine (eq_cmp_ge (by with_unfolding_all rfl)).mpr ?_
  rw [if_neg (by decide)]
  show am_Wp _ 36 21 _ _ _ _
  refine wp_step (e := (.aload_n 0, 1, 0, 0, 0)) (q := (22, [.ref 113, .int 2], [.ref 113], hO nS xs lg_244)) (am_cF_to (by with_unfolding_all rfl)) rfl (by with_unfolding_all rfl) ?_
  show am_Wp _ 36 22 _ _ _ _
  refine wp_step (e := (.getfield 11, 3, 4, 0, 71)) (q := (25, [.ref 113, .int 2], [.ref 114], hO nS xs lg_244)) (am_cF_to (by with_unfolding_all rfl)) rfl (by with_unfolding_all rfl) ?_
  show am_Wp _ 36 25 _ _ _ _
  refine wp_step (e := (.iload_n 1, 1, 0, 0, 0)) (q := (26, [.ref 113, .int 2], [.int 2, .ref 114], hO nS xs lg_244)) (am_cF_to (by with_unfolding_all rfl)) rfl (by with_unfolding_all rfl) ?_
  show am_Wp _ 36 26 _ _ _ _
  refine wp_step (e := (.new 9, 3, 9, 0, 5)) (q := (29, [.ref 113, .int 2], [.ref 139, .int 2, .ref 114], hO nS xs lg_245)) (am_cF_to (by with_unfolding_all rfl)) rfl (by with_unfolding_all rfl) ?_
  show am_Wp _ 36 29 _ _ _ _
  refine wp_step (e := (.dup, 1, 0, 0, 0)) (q := (30, [.ref 113, .int 2], [.ref 139, .ref 139, .int 2, .ref 114], hO nS xs lg_245)) (am_cF_to (by with_unfolding_all rfl)) rfl (by with_unfolding_all rfl) ?_
  show am_Wp _ 36 30 _ _ _ _
  refine (eq_call2 (e := (.invokespecial 15, 3, 4, 102, 97)) (as := [.ref 139]) (r := [.ref 139, .int 2, .ref 114]) (n := 1) (m := 1) (by with_unfolding_all rfl) rfl (by decide) (by with_unfolding_all rfl) (by decide) (by with_unfolding_all rfl) ⟨fun z => absurd z (by decide), fun _ => rfl⟩).mpr ?_
  refine in_22 (d := d) ?_
  show am_Wp _ 36 33 _ _ _ _
  refine wp_step (e := (.aastore, 1, 0, 0, 0)) (q := (34, [.ref 113, .int 2], [], hO nS xs lg_268)) (am_cF_to (by with_unfolding_all rfl)) rfl (by with_unfolding_all rfl) ?_
  show am_Wp _ 36 34 _ _ _ _
  refine wp_step (e := (.iinc 1 1, 3, 0, 0, 0)) (q := (37, [.ref 113, .int 3], [], hO nS xs lg_268)) (am_cF_to (by with_unfolding_all rfl)) rfl (by with_unfolding_all rfl) ?_
  show am_Wp _ 36 37 _ _ _ _
  refine wp_step (e := (.goto (-22), 3, 15, 0, 0)) (q := (15, [.ref 113, .int 3], [], hO nS xs lg_268)) (am_cF_to (by with_unfolding_all rfl)) rfl (by with_unfolding_all rfl) ?_
  show am_Wp _ 36 15 _ _ _ _
  refine wp_step (e := (.iload_n 1, 1, 0, 0, 0)) (q := (16, [.ref 113, .int 3], [.int 3], hO nS xs lg_268)) (am_cF_to (by with_unfolding_all rfl)) rfl (by with_unfolding_all rfl) ?_
  show am_Wp _ 36 16 _ _ _ _
  refine wp_step (e := (.bipush 6, 2, 0, 0, 0)) (q := (18, [.ref 113, .int 3], [.int 6, .int 3], hO nS xs lg_268)) (am_cF_to (by with_unfolding_all rfl)) rfl (by with_unfolding_all rfl) ?_
  show am_Wp _ 36 18 _ _ _ _
  refine (eq_cmp_ge (by with_unfolding_all rfl)).mpr ?_
  rw [if_neg (by decide)]
  show am_Wp _ 36 21 _ _ _ _
  refine wp_step (e := (.aload_n 0, 1, 0, 0, 0)) (q := (22, [.ref 113, .int 3], [.ref 113], hO nS xs lg_268)) (am_cF_to (by with_unfolding_all rfl)) rfl (by with_unfolding_all rfl) ?_
  show am_Wp _ 36 22 _ _ _ _
  refine wp_step (e := (.getfield 11, 3, 4, 0, 71)) (q := (25, [.ref 113, .int 3], [.ref 114], hO nS xs lg_268)) (am_cF_to (by with_unfolding_all rfl)) rfl (by with_unfolding_all rfl) ?_
  show am_Wp _ 36 25 _ _ _ _
  refine wp_step (e := (.iload_n 1, 1, 0, 0, 0)) (q := (26, [.ref 113, .int 3], [.int 3, .ref 114], hO nS xs lg_268)) (am_cF_to (by with_unfolding_all rfl)) rfl (by with_unfolding_all rfl) ?_
  show am_Wp _ 36 26 _ _ _ _
  refine wp_step (e := (.new 9, 3, 9, 0, 5)) (q := (29, [.ref 113, .int 3], [.ref 151, .int 3, .ref 114], hO nS xs lg_269)) (am_cF_to (by with_unfolding_all rfl)) rfl (by with_unfolding_all rfl) ?_
  show am_Wp _ 36 29 _ _ _ _
  refine wp_step (e := (.dup, 1, 0, 0, 0)) (q := (30, [.ref 113, .int 3], [.ref 151, .ref 151, .int 3, .ref 114], hO nS xs lg_269)) (am_cF_to (by with_unfolding_all rfl)) rfl (by with_unfolding_all rfl) ?_
  show am_Wp _ 36 30 _ _ _ _
  refine (eq_call2 (e := (.invokespecial 15, 3, 4, 102, 97)) (as := [.ref 151]) (r := [.ref 151, .int 3, .ref 114]) (n := 1) (m := 1) (by with_unfolding_all rfl) rfl (by decide) (by with_unfolding_all rfl) (by decide) (by with_unfolding_all rfl) ⟨fun z => absurd z (by decide), fun _ => rfl⟩).mpr ?_
  refine in_23 (d := d) ?_
  show am_Wp _ 36 33 _ _ _ _
  refine wp_step (e := (.aastore, 1, 0, 0, 0)) (q := (34, [.ref 113, .int 3], [], hO nS xs lg_292)) (am_cF_to (by with_unfolding_all rfl)) rfl (by with_unfolding_all rfl) ?_
  show am_Wp _ 36 34 _ _ _ _
  refine wp_step (e := (.iinc 1 1, 3, 0, 0, 0)) (q := (37, [.ref 113, .int 4], [], hO nS xs lg_292)) (am_cF_to (by with_unfolding_all rfl)) rfl (by with_unfolding_all rfl) ?_
  show am_Wp _ 36 37 _ _ _ _
  refine wp_step (e := (.goto (-22), 3, 15, 0, 0)) (q := (15, [.ref 113, .int 4], [], hO nS xs lg_292)) (am_cF_to (by with_unfolding_all rfl)) rfl (by with_unfolding_all rfl) ?_
  show am_Wp _ 36 15 _ _ _ _
  refine wp_step (e := (.iload_n 1, 1, 0, 0, 0)) (q := (16, [.ref 113, .int 4], [.int 4], hO nS xs lg_292)) (am_cF_to (by with_unfolding_all rfl)) rfl (by with_unfolding_all rfl) ?_
  show am_Wp _ 36 16 _ _ _ _
  refine wp_step (e := (.bipush 6, 2, 0, 0, 0)) (q := (18, [.ref 113, .int 4], [.int 6, .int 4], hO nS xs lg_292)) (am_cF_to (by with_unfolding_all rfl)) rfl (by with_unfolding_all rfl) ?_
  show am_Wp _ 36 18 _ _ _ _
  refine (eq_cmp_ge (by with_unfolding_all rfl)).mpr ?_
  rw [if_neg (by decide)]
  show am_Wp _ 36 21 _ _ _ _
  refine wp_step (e := (.aload_n 0, 1, 0, 0, 0)) (q := (22, [.ref 113, .int 4], [.ref 113], hO nS xs lg_292)) (am_cF_to (by with_unfolding_all rfl)) rfl (by with_unfolding_all rfl) ?_
  show am_Wp _ 36 22 _ _ _ _
  refine wp_step (e := (.getfield 11, 3, 4, 0, 71)) (q := (25, [.ref 113, .int 4], [.ref 114], hO nS xs lg_292)) (am_cF_to (by with_unfolding_all rfl)) rfl (by with_unfolding_all rfl) ?_
  show am_Wp _ 36 25 _ _ _ _
  refine wp_step (e := (.iload_n 1, 1, 0, 0, 0)) (q := (26, [.ref 113, .int 4], [.int 4, .ref 114], hO nS xs lg_292)) (am_cF_to (by with_unfolding_all rfl)) rfl (by with_unfolding_all rfl) ?_
  show am_Wp _ 36 26 _ _ _ _
  refine wp_step (e := (.new 9, 3, 9, 0, 5)) (q := (29, [.ref 113, .int 4], [.ref 163, .int 4, .ref 114], hO nS xs lg_293)) (am_cF_to (by with_unfolding_all rfl)) rfl (by with_unfolding_all rfl) ?_
  show am_Wp _ 36 29 _ _ _ _
  refine wp_step (e := (.dup, 1, 0, 0, 0)) (q := (30, [.ref 113, .int 4], [.ref 163, .ref 163, .int 4, .ref 114], hO nS xs lg_293)) (am_cF_to (by with_unfolding_all rfl)) rfl (by with_unfolding_all rfl) ?_
  show am_Wp _ 36 30 _ _ _ _
  refine (eq_call2 (e := (.invokespecial 15, 3, 4, 102, 97)) (as := [.ref 163]) (r := [.ref 163, .int 4, .ref 114]) (n := 1) (m := 1) (by with_unfolding_all rfl) rfl (by decide) (by with_unfolding_all rfl) (by decide) (by with_unfolding_all rfl) ⟨fun z => absurd z (by decide), fun _ => rfl⟩).mpr ?_
  refine in_24 (d := d) ?_
  show am_Wp _ 36 33 _ _ _ _
  refine wp_step (e := (.aastore, 1, 0, 0, 0)) (q := (34, [.ref 113, .int 4], [], hO nS xs lg_316)) (am_cF_to (by with_unfolding_all rfl)) rfl (by with_unfolding_all rfl) ?_
  show am_Wp _ 36 34 _ _ _ _
  refine wp_step (e := (.iinc 1 1, 3, 0, 0, 0)) (q := (37, [.ref 113, .int 5], [], hO nS xs lg_316)) (am_cF_to (by with_unfolding_all rfl)) rfl (by with_unfolding_all rfl) ?_
  show am_Wp _ 36 37 _ _ _ _
  refine wp_step (e := (.goto (-22), 3, 15, 0, 0)) (q := (15, [.ref 113, .int 5], [], hO nS xs lg_316)) (am_cF_to (by with_unfolding_all rfl)) rfl (by with_unfolding_all rfl) ?_
  show am_Wp _ 36 15 _ _ _ _
  refine wp_step (e := (.iload_n 1, 1, 0, 0, 0)) (q := (16, [.ref 113, .int 5], [.int 5], hO nS xs lg_316)) (am_cF_to (by with_unfolding_all rfl)) rfl (by with_unfolding_all rfl) ?_
  show am_Wp _ 36 16 _ _ _ _
  refine wp_step (e := (.bipush 6, 2, 0, 0, 0)) (q := (18, [.ref 113, .int 5], [.int 6, .int 5], hO nS xs lg_316)) (am_cF_to (by with_unfolding_all rfl)) rfl (by with_unfolding_all rfl) ?_
  show am_Wp _ 36 18 _ _ _ _
  refine (eq_cmp_ge (by with_unfolding_all rfl)).mpr ?_
  rw [if_neg (by decide)]
  show am_Wp _ 36 21 _ _ _ _
  refine wp_step (e := (.aload_n 0, 1, 0, 0, 0)) (q := (22, [.ref 113, .int 5], [.ref 113], hO nS xs lg_316)) (am_cF_to (by with_unfolding_all rfl)) rfl (by with_unfolding_all rfl) ?_
  show am_Wp _ 36 22 _ _ _ _
  refine wp_step (e := (.getfield 11, 3, 4, 0, 71)) (q := (25, [.ref 113, .int 5], [.ref 114], hO nS xs lg_316)) (am_cF_to (by with_unfolding_all rfl)) rfl (by with_unfolding_all rfl) ?_
  show am_Wp _ 36 25 _ _ _ _
  refine wp_step (e := (.iload_n 1, 1, 0, 0, 0)) (q := (26, [.ref 113, .int 5], [.int 5, .ref 114], hO nS xs lg_316)) (am_cF_to (by with_unfolding_all rfl)) rfl (by with_unfolding_all rfl) ?_
  show am_Wp _ 36 26 _ _ _ _
  refine wp_step (e := (.new 9, 3, 9, 0, 5)) (q := (29, [.ref 113, .int 5], [.ref 175, .int 5, .ref 114], hO nS xs lg_317)) (am_cF_to (by with_unfolding_all rfl)) rfl (by with_unfolding_all rfl) ?_
  show am_Wp _ 36 29 _ _ _ _
  refine wp_step (e := (.dup, 1, 0, 0, 0)) (q := (30, [.ref 113, .int 5], [.ref 175, .ref 175, .int 5, .ref 114], hO nS xs lg_317)) (am_cF_to (by with_unfolding_all rfl)) rfl (by with_unfolding_all rfl) ?_
  show am_Wp _ 36 30 _ _ _ _
  refine (eq_call2 (e := (.invokespecial 15, 3, 4, 102, 97)) (as := [.ref 175]) (r := [.ref 175, .int 5, .ref 114]) (n := 1) (m := 1) (by with_unfolding_all rfl) rfl (by decide) (by with_unfolding_all rfl) (by decide) (by with_unfolding_all rfl) ⟨fun z => absurd z (by decide), fun _ => rfl⟩).mpr ?_
  refine in_25 (d := d) ?_
  show am_Wp _ 36 33 _ _ _ _
  refine wp_step (e := (.aastore, 1, 0, 0, 0)) (q := (34, [.ref 113, .int 5], [], hO nS xs lg_340)) (am_cF_to (by with_unfolding_all rfl)) rfl (by with_unfolding_all rfl) ?_
  show am_Wp _ 36 34 _ _ _ _
  refine wp_step (e := (.iinc 1 1, 3, 0, 0, 0)) (q := (37, [.ref 113, .int 6], [], hO nS xs lg_340)) (am_cF_to (by with_unfolding_all rfl)) rfl (by with_unfolding_all rfl) ?_
  show am_Wp _ 36 37 _ _ _ _
  refine wp_step (e := (.goto (-22), 3, 15, 0, 0)) (q := (15, [.ref 113, .int 6], [], hO nS xs lg_340)) (am_cF_to (by with_unfolding_all rfl)) rfl (by with_unfolding_all rfl) ?_
  show am_Wp _ 36 15 _ _ _ _
  refine wp_step (e := (.iload_n 1, 1, 0, 0, 0)) (q := (16, [.ref 113, .int 6], [.int 6], hO nS xs lg_340)) (am_cF_to (by with_unfolding_all rfl)) rfl (by with_unfolding_all rfl) ?_
  show am_Wp _ 36 16 _ _ _ _
  refine wp_step (e := (.bipush 6, 2, 0, 0, 0)) (q := (18, [.ref 113, .int 6], [.int 6, .int 6], hO nS xs lg_340)) (am_cF_to (by with_unfolding_all rfl)) rfl (by with_unfolding_all rfl) ?_
  show am_Wp _ 36 18 _ _ _ _
  refine (eq_cmp_ge (by with_unfolding_all rfl)).mpr ?_
  rw [if_pos (by decide)]
  show am_Wp _ 36 40 _ _ _ _
  exact (eq_retV2 (e := (.return_, 1, 0, 0, 0)) (by with_unfolding_all rfl) rfl (by with_unfolding_all rfl)).mpr k
set_option maxRecDepth 20000 in
-- LarkExchange$Law.<init> of [.ref 188]
theorem in_27 {d nS : Nat} {xs : Nat → Int32} {Q : Option Value → am_H → Prop} (k : Q none (hO nS xs lg_357)) : am_Wp (d + 1) 19 0 [.ref 188] [] (hO nS xs lg_343) Q := by
  refine wp_step (e := (.aload_n 0, 1, 0, 0, 0)) (q := (1, [.ref 188], [.ref 188], hO nS xs lg_343)) (am_cF_to (by with_unfolding_all rfl)) rfl (by with_unfolding_all rfl) ?_
  show am_Wp _ 19 1 _ _ _ _
  refine wp_obj (e := (.invokespecial 3, 3, 5, 0, 82)) (am_cF_to (by with_unfolding_all rfl)) rfl rfl (by decide) ?_
  show am_Wp _ 19 4 _ _ _ _
  refine wp_step (e := (.aload_n 0, 1, 0, 0, 0)) (q := (5, [.ref 188], [.ref 188], hO nS xs lg_343)) (am_cF_to (by with_unfolding_all rfl)) rfl (by with_unfolding_all rfl) ?_
  show am_Wp _ 19 5 _ _ _ _
  refine wp_step (e := (.bipush 16, 2, 0, 0, 0)) (q := (7, [.ref 188], [.int 16, .ref 188], hO nS xs lg_343)) (am_cF_to (by with_unfolding_all rfl)) rfl (by with_unfolding_all rfl) ?_
  show am_Wp _ 19 7 _ _ _ _
  refine wp_step (e := (.newarray .int, 2, 0, 0, 0)) (q := (9, [.ref 188], [.ref 189, .ref 188], hO nS xs lg_344)) (am_cF_to (by with_unfolding_all rfl)) rfl (by with_unfolding_all rfl) ?_
  show am_Wp _ 19 9 _ _ _ _
  refine wp_step (e := (.putfield 9, 3, 2, 2, 52)) (q := (12, [.ref 188], [], hO nS xs lg_345)) (am_cF_to (by with_unfolding_all rfl)) rfl (by with_unfolding_all rfl) ?_
  show am_Wp _ 19 12 _ _ _ _
  refine wp_step (e := (.aload_n 0, 1, 0, 0, 0)) (q := (13, [.ref 188], [.ref 188], hO nS xs lg_345)) (am_cF_to (by with_unfolding_all rfl)) rfl (by with_unfolding_all rfl) ?_
  show am_Wp _ 19 13 _ _ _ _
  refine wp_step (e := (.bipush 16, 2, 0, 0, 0)) (q := (15, [.ref 188], [.int 16, .ref 188], hO nS xs lg_345)) (am_cF_to (by with_unfolding_all rfl)) rfl (by with_unfolding_all rfl) ?_
  show am_Wp _ 19 15 _ _ _ _
  refine wp_step (e := (.newarray .int, 2, 0, 0, 0)) (q := (17, [.ref 188], [.ref 190, .ref 188], hO nS xs lg_346)) (am_cF_to (by with_unfolding_all rfl)) rfl (by with_unfolding_all rfl) ?_
  show am_Wp _ 19 17 _ _ _ _
  refine wp_step (e := (.putfield 15, 3, 2, 3, 53)) (q := (20, [.ref 188], [], hO nS xs lg_347)) (am_cF_to (by with_unfolding_all rfl)) rfl (by with_unfolding_all rfl) ?_
  show am_Wp _ 19 20 _ _ _ _
  refine wp_step (e := (.aload_n 0, 1, 0, 0, 0)) (q := (21, [.ref 188], [.ref 188], hO nS xs lg_347)) (am_cF_to (by with_unfolding_all rfl)) rfl (by with_unfolding_all rfl) ?_
  show am_Wp _ 19 21 _ _ _ _
  refine wp_step (e := (.bipush 16, 2, 0, 0, 0)) (q := (23, [.ref 188], [.int 16, .ref 188], hO nS xs lg_347)) (am_cF_to (by with_unfolding_all rfl)) rfl (by with_unfolding_all rfl) ?_
  show am_Wp _ 19 23 _ _ _ _
  refine wp_step (e := (.newarray .int, 2, 0, 0, 0)) (q := (25, [.ref 188], [.ref 191, .ref 188], hO nS xs lg_348)) (am_cF_to (by with_unfolding_all rfl)) rfl (by with_unfolding_all rfl) ?_
  show am_Wp _ 19 25 _ _ _ _
  refine wp_step (e := (.putfield 18, 3, 2, 4, 54)) (q := (28, [.ref 188], [], hO nS xs lg_349)) (am_cF_to (by with_unfolding_all rfl)) rfl (by with_unfolding_all rfl) ?_
  show am_Wp _ 19 28 _ _ _ _
  refine wp_step (e := (.aload_n 0, 1, 0, 0, 0)) (q := (29, [.ref 188], [.ref 188], hO nS xs lg_349)) (am_cF_to (by with_unfolding_all rfl)) rfl (by with_unfolding_all rfl) ?_
  show am_Wp _ 19 29 _ _ _ _
  refine wp_step (e := (.bipush 16, 2, 0, 0, 0)) (q := (31, [.ref 188], [.int 16, .ref 188], hO nS xs lg_349)) (am_cF_to (by with_unfolding_all rfl)) rfl (by with_unfolding_all rfl) ?_
  show am_Wp _ 19 31 _ _ _ _
  refine wp_step (e := (.newarray .int, 2, 0, 0, 0)) (q := (33, [.ref 188], [.ref 192, .ref 188], hO nS xs lg_350)) (am_cF_to (by with_unfolding_all rfl)) rfl (by with_unfolding_all rfl) ?_
  show am_Wp _ 19 33 _ _ _ _
  refine wp_step (e := (.putfield 21, 3, 2, 5, 55)) (q := (36, [.ref 188], [], hO nS xs lg_351)) (am_cF_to (by with_unfolding_all rfl)) rfl (by with_unfolding_all rfl) ?_
  show am_Wp _ 19 36 _ _ _ _
  refine wp_step (e := (.aload_n 0, 1, 0, 0, 0)) (q := (37, [.ref 188], [.ref 188], hO nS xs lg_351)) (am_cF_to (by with_unfolding_all rfl)) rfl (by with_unfolding_all rfl) ?_
  show am_Wp _ 19 37 _ _ _ _
  refine wp_step (e := (.sipush 400, 3, 0, 0, 0)) (q := (40, [.ref 188], [.int 400, .ref 188], hO nS xs lg_351)) (am_cF_to (by with_unfolding_all rfl)) rfl (by with_unfolding_all rfl) ?_
  show am_Wp _ 19 40 _ _ _ _
  refine wp_step (e := (.newarray .int, 2, 0, 0, 0)) (q := (42, [.ref 188], [.ref 193, .ref 188], hO nS xs lg_352)) (am_cF_to (by with_unfolding_all rfl)) rfl (by with_unfolding_all rfl) ?_
  show am_Wp _ 19 42 _ _ _ _
  refine wp_step (e := (.putfield 24, 3, 2, 6, 56)) (q := (45, [.ref 188], [], hO nS xs lg_353)) (am_cF_to (by with_unfolding_all rfl)) rfl (by with_unfolding_all rfl) ?_
  show am_Wp _ 19 45 _ _ _ _
  refine wp_step (e := (.aload_n 0, 1, 0, 0, 0)) (q := (46, [.ref 188], [.ref 188], hO nS xs lg_353)) (am_cF_to (by with_unfolding_all rfl)) rfl (by with_unfolding_all rfl) ?_
  show am_Wp _ 19 46 _ _ _ _
  refine wp_step (e := (.bipush 9, 2, 0, 0, 0)) (q := (48, [.ref 188], [.int 9, .ref 188], hO nS xs lg_353)) (am_cF_to (by with_unfolding_all rfl)) rfl (by with_unfolding_all rfl) ?_
  show am_Wp _ 19 48 _ _ _ _
  refine wp_step (e := (.newarray .int, 2, 0, 0, 0)) (q := (50, [.ref 188], [.ref 194, .ref 188], hO nS xs lg_354)) (am_cF_to (by with_unfolding_all rfl)) rfl (by with_unfolding_all rfl) ?_
  show am_Wp _ 19 50 _ _ _ _
  refine wp_step (e := (.putfield 27, 3, 2, 7, 57)) (q := (53, [.ref 188], [], hO nS xs lg_355)) (am_cF_to (by with_unfolding_all rfl)) rfl (by with_unfolding_all rfl) ?_
  show am_Wp _ 19 53 _ _ _ _
  refine wp_step (e := (.aload_n 0, 1, 0, 0, 0)) (q := (54, [.ref 188], [.ref 188], hO nS xs lg_355)) (am_cF_to (by with_unfolding_all rfl)) rfl (by with_unfolding_all rfl) ?_
  show am_Wp _ 19 54 _ _ _ _
  refine wp_step (e := (.bipush 32, 2, 0, 0, 0)) (q := (56, [.ref 188], [.int 32, .ref 188], hO nS xs lg_355)) (am_cF_to (by with_unfolding_all rfl)) rfl (by with_unfolding_all rfl) ?_
  show am_Wp _ 19 56 _ _ _ _
  refine wp_step (e := (.newarray .int, 2, 0, 0, 0)) (q := (58, [.ref 188], [.ref 195, .ref 188], hO nS xs lg_356)) (am_cF_to (by with_unfolding_all rfl)) rfl (by with_unfolding_all rfl) ?_
  show am_Wp _ 19 58 _ _ _ _
  refine wp_step (e := (.putfield 30, 3, 2, 8, 58)) (q := (61, [.ref 188], [], hO nS xs lg_357)) (am_cF_to (by with_unfolding_all rfl)) rfl (by with_unfolding_all rfl) ?_
  show am_Wp _ 19 61 _ _ _ _
  exact (eq_retV2 (e := (.return_, 1, 0, 0, 0)) (by with_unfolding_all rfl) rfl (by with_unfolding_all rfl)).mpr k
set_option maxRecDepth 20000 in
-- LarkExchange$Lines.<init> of [.ref 196]
theorem in_28 {d nS : Nat} {xs : Nat → Int32} {Q : Option Value → am_H → Prop} (k : Q none (hO nS xs lg_361)) : am_Wp (d + 1) 32 0 [.ref 196] [] (hO nS xs lg_359) Q := by
  refine wp_step (e := (.aload_n 0, 1, 0, 0, 0)) (q := (1, [.ref 196], [.ref 196], hO nS xs lg_359)) (am_cF_to (by with_unfolding_all rfl)) rfl (by with_unfolding_all rfl) ?_
  show am_Wp _ 32 1 _ _ _ _
  refine wp_obj (e := (.invokespecial 3, 3, 5, 0, 94)) (am_cF_to (by with_unfolding_all rfl)) rfl rfl (by decide) ?_
  show am_Wp _ 32 4 _ _ _ _
  refine wp_step (e := (.aload_n 0, 1, 0, 0, 0)) (q := (5, [.ref 196], [.ref 196], hO nS xs lg_359)) (am_cF_to (by with_unfolding_all rfl)) rfl (by with_unfolding_all rfl) ?_
  show am_Wp _ 32 5 _ _ _ _
  refine wp_step (e := (.bipush 80, 2, 0, 0, 0)) (q := (7, [.ref 196], [.int 80, .ref 196], hO nS xs lg_359)) (am_cF_to (by with_unfolding_all rfl)) rfl (by with_unfolding_all rfl) ?_
  show am_Wp _ 32 7 _ _ _ _
  refine wp_step (e := (.newarray .int, 2, 0, 0, 0)) (q := (9, [.ref 196], [.ref 197, .ref 196], hO nS xs lg_360)) (am_cF_to (by with_unfolding_all rfl)) rfl (by with_unfolding_all rfl) ?_
  show am_Wp _ 32 9 _ _ _ _
  refine wp_step (e := (.putfield 9, 3, 3, 0, 69)) (q := (12, [.ref 196], [], hO nS xs lg_361)) (am_cF_to (by with_unfolding_all rfl)) rfl (by with_unfolding_all rfl) ?_
  show am_Wp _ 32 12 _ _ _ _
  exact (eq_retV2 (e := (.return_, 1, 0, 0, 0)) (by with_unfolding_all rfl) rfl (by with_unfolding_all rfl)).mpr k
set_option maxRecDepth 20000 in
-- LarkExchange$Reader.<init> of [.ref 187]
theorem in_29 {d nS : Nat} {xs : Nat → Int32} {Q : Option Value → am_H → Prop} (k : Q none (hO nS xs lg_371)) : am_Wp (d + 2) 40 0 [.ref 187] [] (hO nS xs lg_342) Q := by
  refine wp_step (e := (.aload_n 0, 1, 0, 0, 0)) (q := (1, [.ref 187], [.ref 187], hO nS xs lg_342)) (am_cF_to (by with_unfolding_all rfl)) rfl (by with_unfolding_all rfl) ?_
  show am_Wp _ 40 1 _ _ _ _
  refine wp_obj (e := (.invokespecial 3, 3, 5, 0, 100)) (am_cF_to (by with_unfolding_all rfl)) rfl rfl (by decide) ?_
  show am_Wp _ 40 4 _ _ _ _
  refine wp_step (e := (.aload_n 0, 1, 0, 0, 0)) (q := (5, [.ref 187], [.ref 187], hO nS xs lg_342)) (am_cF_to (by with_unfolding_all rfl)) rfl (by with_unfolding_all rfl) ?_
  show am_Wp _ 40 5 _ _ _ _
  refine wp_step (e := (.new 9, 3, 2, 0, 6)) (q := (8, [.ref 187], [.ref 188, .ref 187], hO nS xs lg_343)) (am_cF_to (by with_unfolding_all rfl)) rfl (by with_unfolding_all rfl) ?_
  show am_Wp _ 40 8 _ _ _ _
  refine wp_step (e := (.dup, 1, 0, 0, 0)) (q := (9, [.ref 187], [.ref 188, .ref 188, .ref 187], hO nS xs lg_343)) (am_cF_to (by with_unfolding_all rfl)) rfl (by with_unfolding_all rfl) ?_
  show am_Wp _ 40 9 _ _ _ _
  refine (eq_call2 (e := (.invokespecial 11, 3, 4, 19, 101)) (as := [.ref 188]) (r := [.ref 188, .ref 187]) (n := 1) (m := 1) (by with_unfolding_all rfl) rfl (by decide) (by with_unfolding_all rfl) (by decide) (by with_unfolding_all rfl) ⟨fun z => absurd z (by decide), fun _ => rfl⟩).mpr ?_
  refine in_27 (d := d) ?_
  show am_Wp _ 40 12 _ _ _ _
  refine wp_step (e := (.putfield 12, 3, 5, 3, 74)) (q := (15, [.ref 187], [], hO nS xs lg_358)) (am_cF_to (by with_unfolding_all rfl)) rfl (by with_unfolding_all rfl) ?_
  show am_Wp _ 40 15 _ _ _ _
  refine wp_step (e := (.aload_n 0, 1, 0, 0, 0)) (q := (16, [.ref 187], [.ref 187], hO nS xs lg_358)) (am_cF_to (by with_unfolding_all rfl)) rfl (by with_unfolding_all rfl) ?_
  show am_Wp _ 40 16 _ _ _ _
  refine wp_step (e := (.new 18, 3, 3, 0, 7)) (q := (19, [.ref 187], [.ref 196, .ref 187], hO nS xs lg_359)) (am_cF_to (by with_unfolding_all rfl)) rfl (by with_unfolding_all rfl) ?_
  show am_Wp _ 40 19 _ _ _ _
  refine wp_step (e := (.dup, 1, 0, 0, 0)) (q := (20, [.ref 187], [.ref 196, .ref 196, .ref 187], hO nS xs lg_359)) (am_cF_to (by with_unfolding_all rfl)) rfl (by with_unfolding_all rfl) ?_
  show am_Wp _ 40 20 _ _ _ _
  refine (eq_call2 (e := (.invokespecial 20, 3, 4, 32, 102)) (as := [.ref 196]) (r := [.ref 196, .ref 187]) (n := 1) (m := 1) (by with_unfolding_all rfl) rfl (by decide) (by with_unfolding_all rfl) (by decide) (by with_unfolding_all rfl) ⟨fun z => absurd z (by decide), fun _ => rfl⟩).mpr ?_
  refine in_28 (d := d) ?_
  show am_Wp _ 40 23 _ _ _ _
  refine wp_step (e := (.putfield 21, 3, 5, 4, 75)) (q := (26, [.ref 187], [], hO nS xs lg_362)) (am_cF_to (by with_unfolding_all rfl)) rfl (by with_unfolding_all rfl) ?_
  show am_Wp _ 40 26 _ _ _ _
  refine wp_step (e := (.aload_n 0, 1, 0, 0, 0)) (q := (27, [.ref 187], [.ref 187], hO nS xs lg_362)) (am_cF_to (by with_unfolding_all rfl)) rfl (by with_unfolding_all rfl) ?_
  show am_Wp _ 40 27 _ _ _ _
  refine wp_step (e := (.sipush 400, 3, 0, 0, 0)) (q := (30, [.ref 187], [.int 400, .ref 187], hO nS xs lg_362)) (am_cF_to (by with_unfolding_all rfl)) rfl (by with_unfolding_all rfl) ?_
  show am_Wp _ 40 30 _ _ _ _
  refine wp_step (e := (.newarray .int, 2, 0, 0, 0)) (q := (32, [.ref 187], [.ref 198, .ref 187], hO nS xs lg_363)) (am_cF_to (by with_unfolding_all rfl)) rfl (by with_unfolding_all rfl) ?_
  show am_Wp _ 40 32 _ _ _ _
  refine wp_step (e := (.putfield 25, 3, 5, 5, 76)) (q := (35, [.ref 187], [], hO nS xs lg_364)) (am_cF_to (by with_unfolding_all rfl)) rfl (by with_unfolding_all rfl) ?_
  show am_Wp _ 40 35 _ _ _ _
  refine wp_step (e := (.aload_n 0, 1, 0, 0, 0)) (q := (36, [.ref 187], [.ref 187], hO nS xs lg_364)) (am_cF_to (by with_unfolding_all rfl)) rfl (by with_unfolding_all rfl) ?_
  show am_Wp _ 40 36 _ _ _ _
  refine wp_step (e := (.sipush 401, 3, 0, 0, 0)) (q := (39, [.ref 187], [.int 401, .ref 187], hO nS xs lg_364)) (am_cF_to (by with_unfolding_all rfl)) rfl (by with_unfolding_all rfl) ?_
  show am_Wp _ 40 39 _ _ _ _
  refine wp_step (e := (.newarray .int, 2, 0, 0, 0)) (q := (41, [.ref 187], [.ref 199, .ref 187], hO nS xs lg_365)) (am_cF_to (by with_unfolding_all rfl)) rfl (by with_unfolding_all rfl) ?_
  show am_Wp _ 40 41 _ _ _ _
  refine wp_step (e := (.putfield 29, 3, 5, 6, 77)) (q := (44, [.ref 187], [], hO nS xs lg_366)) (am_cF_to (by with_unfolding_all rfl)) rfl (by with_unfolding_all rfl) ?_
  show am_Wp _ 40 44 _ _ _ _
  refine wp_step (e := (.aload_n 0, 1, 0, 0, 0)) (q := (45, [.ref 187], [.ref 187], hO nS xs lg_366)) (am_cF_to (by with_unfolding_all rfl)) rfl (by with_unfolding_all rfl) ?_
  show am_Wp _ 40 45 _ _ _ _
  refine wp_step (e := (.sipush 401, 3, 0, 0, 0)) (q := (48, [.ref 187], [.int 401, .ref 187], hO nS xs lg_366)) (am_cF_to (by with_unfolding_all rfl)) rfl (by with_unfolding_all rfl) ?_
  show am_Wp _ 40 48 _ _ _ _
  refine wp_step (e := (.newarray .int, 2, 0, 0, 0)) (q := (50, [.ref 187], [.ref 200, .ref 187], hO nS xs lg_367)) (am_cF_to (by with_unfolding_all rfl)) rfl (by with_unfolding_all rfl) ?_
  show am_Wp _ 40 50 _ _ _ _
  refine wp_step (e := (.putfield 32, 3, 5, 7, 78)) (q := (53, [.ref 187], [], hO nS xs lg_368)) (am_cF_to (by with_unfolding_all rfl)) rfl (by with_unfolding_all rfl) ?_
  show am_Wp _ 40 53 _ _ _ _
  refine wp_step (e := (.aload_n 0, 1, 0, 0, 0)) (q := (54, [.ref 187], [.ref 187], hO nS xs lg_368)) (am_cF_to (by with_unfolding_all rfl)) rfl (by with_unfolding_all rfl) ?_
  show am_Wp _ 40 54 _ _ _ _
  refine wp_step (e := (.sipush 401, 3, 0, 0, 0)) (q := (57, [.ref 187], [.int 401, .ref 187], hO nS xs lg_368)) (am_cF_to (by with_unfolding_all rfl)) rfl (by with_unfolding_all rfl) ?_
  show am_Wp _ 40 57 _ _ _ _
  refine wp_step (e := (.newarray .int, 2, 0, 0, 0)) (q := (59, [.ref 187], [.ref 201, .ref 187], hO nS xs lg_369)) (am_cF_to (by with_unfolding_all rfl)) rfl (by with_unfolding_all rfl) ?_
  show am_Wp _ 40 59 _ _ _ _
  refine wp_step (e := (.putfield 35, 3, 5, 8, 79)) (q := (62, [.ref 187], [], hO nS xs lg_370)) (am_cF_to (by with_unfolding_all rfl)) rfl (by with_unfolding_all rfl) ?_
  show am_Wp _ 40 62 _ _ _ _
  refine wp_step (e := (.aload_n 0, 1, 0, 0, 0)) (q := (63, [.ref 187], [.ref 187], hO nS xs lg_370)) (am_cF_to (by with_unfolding_all rfl)) rfl (by with_unfolding_all rfl) ?_
  show am_Wp _ 40 63 _ _ _ _
  refine wp_step (e := (.iconst (-1), 1, 0, 0, 0)) (q := (64, [.ref 187], [.int (-1), .ref 187], hO nS xs lg_370)) (am_cF_to (by with_unfolding_all rfl)) rfl (by with_unfolding_all rfl) ?_
  show am_Wp _ 40 64 _ _ _ _
  refine wp_step (e := (.putfield 38, 3, 5, 2, 80)) (q := (67, [.ref 187], [], hO nS xs lg_371)) (am_cF_to (by with_unfolding_all rfl)) rfl (by with_unfolding_all rfl) ?_
  show am_Wp _ 40 67 _ _ _ _
  exact (eq_retV2 (e := (.return_, 1, 0, 0, 0)) (by with_unfolding_all rfl) rfl (by with_unfolding_all rfl)).mpr k
end
