section
/-! THE CONSTRUCTORS RUN -/
set_option maxRecDepth 20000 in
-- LarkExchange$Sums.<init> of [.ref 202]
theorem in_30 {d nS : Nat} {xs : Nat → Int32} {Q : Option Value → am_H → Prop} (k : Q none (hO nS xs lg_377)) : am_Wp (d + 1) 77 0 [.ref 202] [] (hO nS xs lg_373) Q := by
  refine wp_step (e := (.aload_n 0, 1, 0, 0, 0)) (q := (1, [.ref 202], [.ref 202], hO nS xs lg_373)) (am_cF_to (by with_unfolding_all rfl)) rfl (by with_unfolding_all rfl) ?_
  show am_Wp _ 77 1 _ _ _ _
  refine wp_obj (e := (.invokespecial 3, 3, 5, 0, 142)) (am_cF_to (by with_unfolding_all rfl)) rfl rfl (by decide) ?_
  show am_Wp _ 77 4 _ _ _ _
  refine wp_step (e := (.aload_n 0, 1, 0, 0, 0)) (q := (5, [.ref 202], [.ref 202], hO nS xs lg_373)) (am_cF_to (by with_unfolding_all rfl)) rfl (by with_unfolding_all rfl) ?_
  show am_Wp _ 77 5 _ _ _ _
  refine wp_step (e := (.bipush 61, 2, 0, 0, 0)) (q := (7, [.ref 202], [.int 61, .ref 202], hO nS xs lg_373)) (am_cF_to (by with_unfolding_all rfl)) rfl (by with_unfolding_all rfl) ?_
  show am_Wp _ 77 7 _ _ _ _
  refine wp_step (e := (.newarray .int, 2, 0, 0, 0)) (q := (9, [.ref 202], [.ref 203, .ref 202], hO nS xs lg_374)) (am_cF_to (by with_unfolding_all rfl)) rfl (by with_unfolding_all rfl) ?_
  show am_Wp _ 77 9 _ _ _ _
  refine wp_step (e := (.putfield 9, 3, 7, 0, 94)) (q := (12, [.ref 202], [], hO nS xs lg_375)) (am_cF_to (by with_unfolding_all rfl)) rfl (by with_unfolding_all rfl) ?_
  show am_Wp _ 77 12 _ _ _ _
  refine wp_step (e := (.aload_n 0, 1, 0, 0, 0)) (q := (13, [.ref 202], [.ref 202], hO nS xs lg_375)) (am_cF_to (by with_unfolding_all rfl)) rfl (by with_unfolding_all rfl) ?_
  show am_Wp _ 77 13 _ _ _ _
  refine wp_step (e := (.bipush 101, 2, 0, 0, 0)) (q := (15, [.ref 202], [.int 101, .ref 202], hO nS xs lg_375)) (am_cF_to (by with_unfolding_all rfl)) rfl (by with_unfolding_all rfl) ?_
  show am_Wp _ 77 15 _ _ _ _
  refine wp_step (e := (.newarray .int, 2, 0, 0, 0)) (q := (17, [.ref 202], [.ref 204, .ref 202], hO nS xs lg_376)) (am_cF_to (by with_unfolding_all rfl)) rfl (by with_unfolding_all rfl) ?_
  show am_Wp _ 77 17 _ _ _ _
  refine wp_step (e := (.putfield 15, 3, 7, 1, 95)) (q := (20, [.ref 202], [], hO nS xs lg_377)) (am_cF_to (by with_unfolding_all rfl)) rfl (by with_unfolding_all rfl) ?_
  show am_Wp _ 77 20 _ _ _ _
  exact (eq_retV2 (e := (.return_, 1, 0, 0, 0)) (by with_unfolding_all rfl) rfl (by with_unfolding_all rfl)).mpr k
set_option maxRecDepth 20000 in
-- LarkExchange.<init> of [.ref 16]
theorem in_31 {d nS : Nat} {xs : Nat → Int32} {Q : Option Value → am_H → Prop} (k : Q none (hO nS xs lg_378)) : am_Wp (d + 3) 122 0 [.ref 16] [] (hO nS xs lg_1) Q := by
  refine wp_step (e := (.aload_n 0, 1, 0, 0, 0)) (q := (1, [.ref 16], [.ref 16], hO nS xs lg_1)) (am_cF_to (by with_unfolding_all rfl)) rfl (by with_unfolding_all rfl) ?_
  show am_Wp _ 122 1 _ _ _ _
  refine wp_obj (e := (.invokespecial 1, 3, 5, 0, 0)) (am_cF_to (by with_unfolding_all rfl)) rfl rfl (by decide) ?_
  show am_Wp _ 122 4 _ _ _ _
  refine wp_step (e := (.aload_n 0, 1, 0, 0, 0)) (q := (5, [.ref 16], [.ref 16], hO nS xs lg_1)) (am_cF_to (by with_unfolding_all rfl)) rfl (by with_unfolding_all rfl) ?_
  show am_Wp _ 122 5 _ _ _ _
  refine wp_step (e := (.new 7, 3, 8, 0, 0)) (q := (8, [.ref 16], [.ref 17, .ref 16], hO nS xs lg_2)) (am_cF_to (by with_unfolding_all rfl)) rfl (by with_unfolding_all rfl) ?_
  show am_Wp _ 122 8 _ _ _ _
  refine wp_step (e := (.dup, 1, 0, 0, 0)) (q := (9, [.ref 16], [.ref 17, .ref 17, .ref 16], hO nS xs lg_2)) (am_cF_to (by with_unfolding_all rfl)) rfl (by with_unfolding_all rfl) ?_
  show am_Wp _ 122 9 _ _ _ _
  refine (eq_call2 (e := (.invokespecial 9, 3, 4, 91, 1)) (as := [.ref 17]) (r := [.ref 17, .ref 16]) (n := 1) (m := 1) (by with_unfolding_all rfl) rfl (by decide) (by with_unfolding_all rfl) (by decide) (by with_unfolding_all rfl) ⟨fun z => absurd z (by decide), fun _ => rfl⟩).mpr ?_
  refine in_9 (d := d) ?_
  show am_Wp _ 122 12 _ _ _ _
  refine wp_step (e := (.putfield 10, 3, 10, 0, 0)) (q := (15, [.ref 16], [], hO nS xs lg_85)) (am_cF_to (by with_unfolding_all rfl)) rfl (by with_unfolding_all rfl) ?_
  show am_Wp _ 122 15 _ _ _ _
  refine wp_step (e := (.aload_n 0, 1, 0, 0, 0)) (q := (16, [.ref 16], [.ref 16], hO nS xs lg_85)) (am_cF_to (by with_unfolding_all rfl)) rfl (by with_unfolding_all rfl) ?_
  show am_Wp _ 122 16 _ _ _ _
  refine wp_step (e := (.new 7, 3, 8, 0, 0)) (q := (19, [.ref 16], [.ref 59, .ref 16], hO nS xs lg_86)) (am_cF_to (by with_unfolding_all rfl)) rfl (by with_unfolding_all rfl) ?_
  show am_Wp _ 122 19 _ _ _ _
  refine wp_step (e := (.dup, 1, 0, 0, 0)) (q := (20, [.ref 16], [.ref 59, .ref 59, .ref 16], hO nS xs lg_86)) (am_cF_to (by with_unfolding_all rfl)) rfl (by with_unfolding_all rfl) ?_
  show am_Wp _ 122 20 _ _ _ _
  refine (eq_call2 (e := (.invokespecial 9, 3, 4, 91, 1)) (as := [.ref 59]) (r := [.ref 59, .ref 16]) (n := 1) (m := 1) (by with_unfolding_all rfl) rfl (by decide) (by with_unfolding_all rfl) (by decide) (by with_unfolding_all rfl) ⟨fun z => absurd z (by decide), fun _ => rfl⟩).mpr ?_
  refine in_18 (d := d) ?_
  show am_Wp _ 122 23 _ _ _ _
  refine wp_step (e := (.putfield 16, 3, 10, 1, 1)) (q := (26, [.ref 16], [], hO nS xs lg_169)) (am_cF_to (by with_unfolding_all rfl)) rfl (by with_unfolding_all rfl) ?_
  show am_Wp _ 122 26 _ _ _ _
  refine wp_step (e := (.aload_n 0, 1, 0, 0, 0)) (q := (27, [.ref 16], [.ref 16], hO nS xs lg_169)) (am_cF_to (by with_unfolding_all rfl)) rfl (by with_unfolding_all rfl) ?_
  show am_Wp _ 122 27 _ _ _ _
  refine wp_step (e := (.new 19, 3, 9, 0, 1)) (q := (30, [.ref 16], [.ref 101, .ref 16], hO nS xs lg_170)) (am_cF_to (by with_unfolding_all rfl)) rfl (by with_unfolding_all rfl) ?_
  show am_Wp _ 122 30 _ _ _ _
  refine wp_step (e := (.dup, 1, 0, 0, 0)) (q := (31, [.ref 16], [.ref 101, .ref 101, .ref 16], hO nS xs lg_170)) (am_cF_to (by with_unfolding_all rfl)) rfl (by with_unfolding_all rfl) ?_
  show am_Wp _ 122 31 _ _ _ _
  refine (eq_call2 (e := (.invokespecial 21, 3, 4, 102, 2)) (as := [.ref 101]) (r := [.ref 101, .ref 16]) (n := 1) (m := 1) (by with_unfolding_all rfl) rfl (by decide) (by with_unfolding_all rfl) (by decide) (by with_unfolding_all rfl) ⟨fun z => absurd z (by decide), fun _ => rfl⟩).mpr ?_
  refine in_19 (d := d + 1) ?_
  show am_Wp _ 122 34 _ _ _ _
  refine wp_step (e := (.putfield 22, 3, 10, 2, 2)) (q := (37, [.ref 16], [], hO nS xs lg_193)) (am_cF_to (by with_unfolding_all rfl)) rfl (by with_unfolding_all rfl) ?_
  show am_Wp _ 122 37 _ _ _ _
  refine wp_step (e := (.aload_n 0, 1, 0, 0, 0)) (q := (38, [.ref 16], [.ref 16], hO nS xs lg_193)) (am_cF_to (by with_unfolding_all rfl)) rfl (by with_unfolding_all rfl) ?_
  show am_Wp _ 122 38 _ _ _ _
  refine wp_step (e := (.new 26, 3, 4, 0, 2)) (q := (41, [.ref 16], [.ref 113, .ref 16], hO nS xs lg_194)) (am_cF_to (by with_unfolding_all rfl)) rfl (by with_unfolding_all rfl) ?_
  show am_Wp _ 122 41 _ _ _ _
  refine wp_step (e := (.dup, 1, 0, 0, 0)) (q := (42, [.ref 16], [.ref 113, .ref 113, .ref 16], hO nS xs lg_194)) (am_cF_to (by with_unfolding_all rfl)) rfl (by with_unfolding_all rfl) ?_
  show am_Wp _ 122 42 _ _ _ _
  refine (eq_call2 (e := (.invokespecial 28, 3, 2, 36, 3)) (as := [.ref 113]) (r := [.ref 113, .ref 16]) (n := 1) (m := 2) (by with_unfolding_all rfl) rfl (by decide) (by with_unfolding_all rfl) (by decide) (by with_unfolding_all rfl) ⟨fun z => absurd z (by decide), fun _ => rfl⟩).mpr ?_
  refine in_26 (d := d) ?_
  show am_Wp _ 122 45 _ _ _ _
  refine wp_step (e := (.putfield 29, 3, 10, 3, 3)) (q := (48, [.ref 16], [], hO nS xs lg_341)) (am_cF_to (by with_unfolding_all rfl)) rfl (by with_unfolding_all rfl) ?_
  show am_Wp _ 122 48 _ _ _ _
  refine wp_step (e := (.aload_n 0, 1, 0, 0, 0)) (q := (49, [.ref 16], [.ref 16], hO nS xs lg_341)) (am_cF_to (by with_unfolding_all rfl)) rfl (by with_unfolding_all rfl) ?_
  show am_Wp _ 122 49 _ _ _ _
  refine wp_step (e := (.new 33, 3, 5, 0, 3)) (q := (52, [.ref 16], [.ref 187, .ref 16], hO nS xs lg_342)) (am_cF_to (by with_unfolding_all rfl)) rfl (by with_unfolding_all rfl) ?_
  show am_Wp _ 122 52 _ _ _ _
  refine wp_step (e := (.dup, 1, 0, 0, 0)) (q := (53, [.ref 16], [.ref 187, .ref 187, .ref 16], hO nS xs lg_342)) (am_cF_to (by with_unfolding_all rfl)) rfl (by with_unfolding_all rfl) ?_
  show am_Wp _ 122 53 _ _ _ _
  refine (eq_call2 (e := (.invokespecial 35, 3, 2, 40, 4)) (as := [.ref 187]) (r := [.ref 187, .ref 16]) (n := 1) (m := 1) (by with_unfolding_all rfl) rfl (by decide) (by with_unfolding_all rfl) (by decide) (by with_unfolding_all rfl) ⟨fun z => absurd z (by decide), fun _ => rfl⟩).mpr ?_
  refine in_29 (d := d) ?_
  show am_Wp _ 122 56 _ _ _ _
  refine wp_step (e := (.putfield 36, 3, 10, 4, 4)) (q := (59, [.ref 16], [], hO nS xs lg_372)) (am_cF_to (by with_unfolding_all rfl)) rfl (by with_unfolding_all rfl) ?_
  show am_Wp _ 122 59 _ _ _ _
  refine wp_step (e := (.aload_n 0, 1, 0, 0, 0)) (q := (60, [.ref 16], [.ref 16], hO nS xs lg_372)) (am_cF_to (by with_unfolding_all rfl)) rfl (by with_unfolding_all rfl) ?_
  show am_Wp _ 122 60 _ _ _ _
  refine wp_step (e := (.new 40, 3, 7, 0, 4)) (q := (63, [.ref 16], [.ref 202, .ref 16], hO nS xs lg_373)) (am_cF_to (by with_unfolding_all rfl)) rfl (by with_unfolding_all rfl) ?_
  show am_Wp _ 122 63 _ _ _ _
  refine wp_step (e := (.dup, 1, 0, 0, 0)) (q := (64, [.ref 16], [.ref 202, .ref 202, .ref 16], hO nS xs lg_373)) (am_cF_to (by with_unfolding_all rfl)) rfl (by with_unfolding_all rfl) ?_
  show am_Wp _ 122 64 _ _ _ _
  refine (eq_call2 (e := (.invokespecial 42, 3, 4, 77, 5)) (as := [.ref 202]) (r := [.ref 202, .ref 16]) (n := 1) (m := 1) (by with_unfolding_all rfl) rfl (by decide) (by with_unfolding_all rfl) (by decide) (by with_unfolding_all rfl) ⟨fun z => absurd z (by decide), fun _ => rfl⟩).mpr ?_
  refine in_30 (d := d + 1) ?_
  show am_Wp _ 122 67 _ _ _ _
  refine wp_step (e := (.putfield 43, 3, 10, 5, 5)) (q := (70, [.ref 16], [], hO nS xs lg_378)) (am_cF_to (by with_unfolding_all rfl)) rfl (by with_unfolding_all rfl) ?_
  show am_Wp _ 122 70 _ _ _ _
  exact (eq_retV2 (e := (.return_, 1, 0, 0, 0)) (by with_unfolding_all rfl) rfl (by with_unfolding_all rfl)).mpr k
set_option maxHeartbeats 8000000 in
set_option maxRecDepth 20000 in
-- LarkExchangeModel.<init> of [.ref 205]
theorem in_32 {d nS : Nat} {xs : Nat → Int32} {Q : Option Value → am_H → Prop} (k : Q none (hO nS xs lg_612)) : am_Wp (d + 1) 167 0 [.ref 205] [] (hO nS xs lg_379) Q := by
  refine wp_step (e := (.aload_n 0, 1, 0, 0, 0)) (q := (1, [.ref 205], [.ref 205], hO nS xs lg_379)) (am_cF_to (by with_unfolding_all rfl)) rfl (by with_unfolding_all rfl) ?_
  show am_Wp _ 167 1 _ _ _ _
  refine wp_obj (e := (.invokespecial 1, 3, 5, 0, 273)) (am_cF_to (by with_unfolding_all rfl)) rfl rfl (by decide) ?_
  show am_Wp _ 167 4 _ _ _ _
  refine wp_step (e := (.aload_n 0, 1, 0, 0, 0)) (q := (5, [.ref 205], [.ref 205], hO nS xs lg_379)) (am_cF_to (by with_unfolding_all rfl)) rfl (by with_unfolding_all rfl) ?_
  show am_Wp _ 167 5 _ _ _ _
  refine wp_step (e := (.sipush 136, 3, 0, 0, 0)) (q := (8, [.ref 205], [.int 136, .ref 205], hO nS xs lg_379)) (am_cF_to (by with_unfolding_all rfl)) rfl (by with_unfolding_all rfl) ?_
  show am_Wp _ 167 8 _ _ _ _
  refine wp_step (e := (.newarray .int, 2, 0, 0, 0)) (q := (10, [.ref 205], [.ref 206, .ref 205], hO nS xs lg_380)) (am_cF_to (by with_unfolding_all rfl)) rfl (by with_unfolding_all rfl) ?_
  show am_Wp _ 167 10 _ _ _ _
  refine wp_step (e := (.putfield 7, 3, 11, 3, 141)) (q := (13, [.ref 205], [], hO nS xs lg_381)) (am_cF_to (by with_unfolding_all rfl)) rfl (by with_unfolding_all rfl) ?_
  show am_Wp _ 167 13 _ _ _ _
  refine wp_step (e := (.aload_n 0, 1, 0, 0, 0)) (q := (14, [.ref 205], [.ref 205], hO nS xs lg_381)) (am_cF_to (by with_unfolding_all rfl)) rfl (by with_unfolding_all rfl) ?_
  show am_Wp _ 167 14 _ _ _ _
  refine wp_step (e := (.sipush 816, 3, 0, 0, 0)) (q := (17, [.ref 205], [.int 816, .ref 205], hO nS xs lg_381)) (am_cF_to (by with_unfolding_all rfl)) rfl (by with_unfolding_all rfl) ?_
  show am_Wp _ 167 17 _ _ _ _
  refine wp_step (e := (.newarray .int, 2, 0, 0, 0)) (q := (19, [.ref 205], [.ref 207, .ref 205], hO nS xs lg_382)) (am_cF_to (by with_unfolding_all rfl)) rfl (by with_unfolding_all rfl) ?_
  show am_Wp _ 167 19 _ _ _ _
  refine wp_step (e := (.putfield 13, 3, 11, 4, 142)) (q := (22, [.ref 205], [], hO nS xs lg_383)) (am_cF_to (by with_unfolding_all rfl)) rfl (by with_unfolding_all rfl) ?_
  show am_Wp _ 167 22 _ _ _ _
  refine wp_step (e := (.aload_n 0, 1, 0, 0, 0)) (q := (23, [.ref 205], [.ref 205], hO nS xs lg_383)) (am_cF_to (by with_unfolding_all rfl)) rfl (by with_unfolding_all rfl) ?_
  show am_Wp _ 167 23 _ _ _ _
  refine wp_step (e := (.sipush 136, 3, 0, 0, 0)) (q := (26, [.ref 205], [.int 136, .ref 205], hO nS xs lg_383)) (am_cF_to (by with_unfolding_all rfl)) rfl (by with_unfolding_all rfl) ?_
  show am_Wp _ 167 26 _ _ _ _
  refine wp_step (e := (.newarray .int, 2, 0, 0, 0)) (q := (28, [.ref 205], [.ref 208, .ref 205], hO nS xs lg_384)) (am_cF_to (by with_unfolding_all rfl)) rfl (by with_unfolding_all rfl) ?_
  show am_Wp _ 167 28 _ _ _ _
  refine wp_step (e := (.putfield 16, 3, 11, 6, 143)) (q := (31, [.ref 205], [], hO nS xs lg_385)) (am_cF_to (by with_unfolding_all rfl)) rfl (by with_unfolding_all rfl) ?_
  show am_Wp _ 167 31 _ _ _ _
  refine wp_step (e := (.aload_n 0, 1, 0, 0, 0)) (q := (32, [.ref 205], [.ref 205], hO nS xs lg_385)) (am_cF_to (by with_unfolding_all rfl)) rfl (by with_unfolding_all rfl) ?_
  show am_Wp _ 167 32 _ _ _ _
  refine wp_step (e := (.bipush 6, 2, 0, 0, 0)) (q := (34, [.ref 205], [.int 6, .ref 205], hO nS xs lg_385)) (am_cF_to (by with_unfolding_all rfl)) rfl (by with_unfolding_all rfl) ?_
  show am_Wp _ 167 34 _ _ _ _
  refine wp_step (e := (.newarray .int, 2, 0, 0, 0)) (q := (36, [.ref 205], [.ref 209, .ref 205], hO nS xs lg_386)) (am_cF_to (by with_unfolding_all rfl)) rfl (by with_unfolding_all rfl) ?_
  show am_Wp _ 167 36 _ _ _ _
  refine wp_step (e := (.putfield 19, 3, 11, 11, 144)) (q := (39, [.ref 205], [], hO nS xs lg_387)) (am_cF_to (by with_unfolding_all rfl)) rfl (by with_unfolding_all rfl) ?_
  show am_Wp _ 167 39 _ _ _ _
  refine wp_step (e := (.aload_n 0, 1, 0, 0, 0)) (q := (40, [.ref 205], [.ref 205], hO nS xs lg_387)) (am_cF_to (by with_unfolding_all rfl)) rfl (by with_unfolding_all rfl) ?_
  show am_Wp _ 167 40 _ _ _ _
  refine wp_step (e := (.bipush 8, 2, 0, 0, 0)) (q := (42, [.ref 205], [.int 8, .ref 205], hO nS xs lg_387)) (am_cF_to (by with_unfolding_all rfl)) rfl (by with_unfolding_all rfl) ?_
  show am_Wp _ 167 42 _ _ _ _
  refine wp_step (e := (.newarray .int, 2, 0, 0, 0)) (q := (44, [.ref 205], [.ref 210, .ref 205], hO nS xs lg_388)) (am_cF_to (by with_unfolding_all rfl)) rfl (by with_unfolding_all rfl) ?_
  show am_Wp _ 167 44 _ _ _ _
  refine wp_step (e := (.putfield 22, 3, 11, 12, 145)) (q := (47, [.ref 205], [], hO nS xs lg_389)) (am_cF_to (by with_unfolding_all rfl)) rfl (by with_unfolding_all rfl) ?_
  show am_Wp _ 167 47 _ _ _ _
  refine wp_step (e := (.aload_n 0, 1, 0, 0, 0)) (q := (48, [.ref 205], [.ref 205], hO nS xs lg_389)) (am_cF_to (by with_unfolding_all rfl)) rfl (by with_unfolding_all rfl) ?_
  show am_Wp _ 167 48 _ _ _ _
  refine wp_step (e := (.sipush 600, 3, 0, 0, 0)) (q := (51, [.ref 205], [.int 600, .ref 205], hO nS xs lg_389)) (am_cF_to (by with_unfolding_all rfl)) rfl (by with_unfolding_all rfl) ?_
  show am_Wp _ 167 51 _ _ _ _
  refine wp_step (e := (.newarray .int, 2, 0, 0, 0)) (q := (53, [.ref 205], [.ref 211, .ref 205], hO nS xs lg_390)) (am_cF_to (by with_unfolding_all rfl)) rfl (by with_unfolding_all rfl) ?_
  show am_Wp _ 167 53 _ _ _ _
  refine wp_step (e := (.putfield 25, 3, 11, 13, 146)) (q := (56, [.ref 205], [], hO nS xs lg_391)) (am_cF_to (by with_unfolding_all rfl)) rfl (by with_unfolding_all rfl) ?_
  show am_Wp _ 167 56 _ _ _ _
  refine wp_step (e := (.aload_n 0, 1, 0, 0, 0)) (q := (57, [.ref 205], [.ref 205], hO nS xs lg_391)) (am_cF_to (by with_unfolding_all rfl)) rfl (by with_unfolding_all rfl) ?_
  show am_Wp _ 167 57 _ _ _ _
  refine wp_step (e := (.sipush 400, 3, 0, 0, 0)) (q := (60, [.ref 205], [.int 400, .ref 205], hO nS xs lg_391)) (am_cF_to (by with_unfolding_all rfl)) rfl (by with_unfolding_all rfl) ?_
  show am_Wp _ 167 60 _ _ _ _
  refine wp_step (e := (.newarray .int, 2, 0, 0, 0)) (q := (62, [.ref 205], [.ref 212, .ref 205], hO nS xs lg_392)) (am_cF_to (by with_unfolding_all rfl)) rfl (by with_unfolding_all rfl) ?_
  show am_Wp _ 167 62 _ _ _ _
  refine wp_step (e := (.putfield 28, 3, 11, 14, 147)) (q := (65, [.ref 205], [], hO nS xs lg_393)) (am_cF_to (by with_unfolding_all rfl)) rfl (by with_unfolding_all rfl) ?_
  show am_Wp _ 167 65 _ _ _ _
  refine wp_step (e := (.aload_n 0, 1, 0, 0, 0)) (q := (66, [.ref 205], [.ref 205], hO nS xs lg_393)) (am_cF_to (by with_unfolding_all rfl)) rfl (by with_unfolding_all rfl) ?_
  show am_Wp _ 167 66 _ _ _ _
  refine wp_step (e := (.sipush 128, 3, 0, 0, 0)) (q := (69, [.ref 205], [.int 128, .ref 205], hO nS xs lg_393)) (am_cF_to (by with_unfolding_all rfl)) rfl (by with_unfolding_all rfl) ?_
  show am_Wp _ 167 69 _ _ _ _
  refine wp_step (e := (.newarray .int, 2, 0, 0, 0)) (q := (71, [.ref 205], [.ref 213, .ref 205], hO nS xs lg_394)) (am_cF_to (by with_unfolding_all rfl)) rfl (by with_unfolding_all rfl) ?_
  show am_Wp _ 167 71 _ _ _ _
  refine wp_step (e := (.dup, 1, 0, 0, 0)) (q := (72, [.ref 205], [.ref 213, .ref 213, .ref 205], hO nS xs lg_394)) (am_cF_to (by with_unfolding_all rfl)) rfl (by with_unfolding_all rfl) ?_
  show am_Wp _ 167 72 _ _ _ _
  refine wp_step (e := (.iconst 0, 1, 0, 0, 0)) (q := (73, [.ref 205], [.int 0, .ref 213, .ref 213, .ref 205], hO nS xs lg_394)) (am_cF_to (by with_unfolding_all rfl)) rfl (by with_unfolding_all rfl) ?_
  show am_Wp _ 167 73 _ _ _ _
  refine wp_step (e := (.bipush 32, 2, 0, 0, 0)) (q := (75, [.ref 205], [.int 32, .int 0, .ref 213, .ref 213, .ref 205], hO nS xs lg_394)) (am_cF_to (by with_unfolding_all rfl)) rfl (by with_unfolding_all rfl) ?_
  show am_Wp _ 167 75 _ _ _ _
  refine wp_step (e := (.iastore, 1, 0, 0, 0)) (q := (76, [.ref 205], [.ref 213, .ref 205], hO nS xs lg_395)) (am_cF_to (by with_unfolding_all rfl)) rfl (by with_unfolding_all rfl) ?_
  show am_Wp _ 167 76 _ _ _ _
  refine wp_step (e := (.dup, 1, 0, 0, 0)) (q := (77, [.ref 205], [.ref 213, .ref 213, .ref 205], hO nS xs lg_395)) (am_cF_to (by with_unfolding_all rfl)) rfl (by with_unfolding_all rfl) ?_
  show am_Wp _ 167 77 _ _ _ _
  refine wp_step (e := (.iconst 1, 1, 0, 0, 0)) (q := (78, [.ref 205], [.int 1, .ref 213, .ref 213, .ref 205], hO nS xs lg_395)) (am_cF_to (by with_unfolding_all rfl)) rfl (by with_unfolding_all rfl) ?_
  show am_Wp _ 167 78 _ _ _ _
  refine wp_step (e := (.bipush 114, 2, 0, 0, 0)) (q := (80, [.ref 205], [.int 114, .int 1, .ref 213, .ref 213, .ref 205], hO nS xs lg_395)) (am_cF_to (by with_unfolding_all rfl)) rfl (by with_unfolding_all rfl) ?_
  show am_Wp _ 167 80 _ _ _ _
  refine wp_step (e := (.iastore, 1, 0, 0, 0)) (q := (81, [.ref 205], [.ref 213, .ref 205], hO nS xs lg_396)) (am_cF_to (by with_unfolding_all rfl)) rfl (by with_unfolding_all rfl) ?_
  show am_Wp _ 167 81 _ _ _ _
  refine wp_step (e := (.dup, 1, 0, 0, 0)) (q := (82, [.ref 205], [.ref 213, .ref 213, .ref 205], hO nS xs lg_396)) (am_cF_to (by with_unfolding_all rfl)) rfl (by with_unfolding_all rfl) ?_
  show am_Wp _ 167 82 _ _ _ _
  refine wp_step (e := (.iconst 2, 1, 0, 0, 0)) (q := (83, [.ref 205], [.int 2, .ref 213, .ref 213, .ref 205], hO nS xs lg_396)) (am_cF_to (by with_unfolding_all rfl)) rfl (by with_unfolding_all rfl) ?_
  show am_Wp _ 167 83 _ _ _ _
  refine wp_step (e := (.bipush 105, 2, 0, 0, 0)) (q := (85, [.ref 205], [.int 105, .int 2, .ref 213, .ref 213, .ref 205], hO nS xs lg_396)) (am_cF_to (by with_unfolding_all rfl)) rfl (by with_unfolding_all rfl) ?_
  show am_Wp _ 167 85 _ _ _ _
  refine wp_step (e := (.iastore, 1, 0, 0, 0)) (q := (86, [.ref 205], [.ref 213, .ref 205], hO nS xs lg_397)) (am_cF_to (by with_unfolding_all rfl)) rfl (by with_unfolding_all rfl) ?_
  show am_Wp _ 167 86 _ _ _ _
  refine wp_step (e := (.dup, 1, 0, 0, 0)) (q := (87, [.ref 205], [.ref 213, .ref 213, .ref 205], hO nS xs lg_397)) (am_cF_to (by with_unfolding_all rfl)) rfl (by with_unfolding_all rfl) ?_
  show am_Wp _ 167 87 _ _ _ _
  refine wp_step (e := (.iconst 3, 1, 0, 0, 0)) (q := (88, [.ref 205], [.int 3, .ref 213, .ref 213, .ref 205], hO nS xs lg_397)) (am_cF_to (by with_unfolding_all rfl)) rfl (by with_unfolding_all rfl) ?_
  show am_Wp _ 167 88 _ _ _ _
  refine wp_step (e := (.bipush 115, 2, 0, 0, 0)) (q := (90, [.ref 205], [.int 115, .int 3, .ref 213, .ref 213, .ref 205], hO nS xs lg_397)) (am_cF_to (by with_unfolding_all rfl)) rfl (by with_unfolding_all rfl) ?_
  show am_Wp _ 167 90 _ _ _ _
  refine wp_step (e := (.iastore, 1, 0, 0, 0)) (q := (91, [.ref 205], [.ref 213, .ref 205], hO nS xs lg_398)) (am_cF_to (by with_unfolding_all rfl)) rfl (by with_unfolding_all rfl) ?_
  show am_Wp _ 167 91 _ _ _ _
  refine wp_step (e := (.dup, 1, 0, 0, 0)) (q := (92, [.ref 205], [.ref 213, .ref 213, .ref 205], hO nS xs lg_398)) (am_cF_to (by with_unfolding_all rfl)) rfl (by with_unfolding_all rfl) ?_
  show am_Wp _ 167 92 _ _ _ _
  refine wp_step (e := (.iconst 4, 1, 0, 0, 0)) (q := (93, [.ref 205], [.int 4, .ref 213, .ref 213, .ref 205], hO nS xs lg_398)) (am_cF_to (by with_unfolding_all rfl)) rfl (by with_unfolding_all rfl) ?_
  show am_Wp _ 167 93 _ _ _ _
  refine wp_step (e := (.bipush 101, 2, 0, 0, 0)) (q := (95, [.ref 205], [.int 101, .int 4, .ref 213, .ref 213, .ref 205], hO nS xs lg_398)) (am_cF_to (by with_unfolding_all rfl)) rfl (by with_unfolding_all rfl) ?_
  show am_Wp _ 167 95 _ _ _ _
  refine wp_step (e := (.iastore, 1, 0, 0, 0)) (q := (96, [.ref 205], [.ref 213, .ref 205], hO nS xs lg_399)) (am_cF_to (by with_unfolding_all rfl)) rfl (by with_unfolding_all rfl) ?_
  show am_Wp _ 167 96 _ _ _ _
  refine wp_step (e := (.dup, 1, 0, 0, 0)) (q := (97, [.ref 205], [.ref 213, .ref 213, .ref 205], hO nS xs lg_399)) (am_cF_to (by with_unfolding_all rfl)) rfl (by with_unfolding_all rfl) ?_
  show am_Wp _ 167 97 _ _ _ _
  refine wp_step (e := (.iconst 5, 1, 0, 0, 0)) (q := (98, [.ref 205], [.int 5, .ref 213, .ref 213, .ref 205], hO nS xs lg_399)) (am_cF_to (by with_unfolding_all rfl)) rfl (by with_unfolding_all rfl) ?_
  show am_Wp _ 167 98 _ _ _ _
  refine wp_step (e := (.bipush 115, 2, 0, 0, 0)) (q := (100, [.ref 205], [.int 115, .int 5, .ref 213, .ref 213, .ref 205], hO nS xs lg_399)) (am_cF_to (by with_unfolding_all rfl)) rfl (by with_unfolding_all rfl) ?_
  show am_Wp _ 167 100 _ _ _ _
  refine wp_step (e := (.iastore, 1, 0, 0, 0)) (q := (101, [.ref 205], [.ref 213, .ref 205], hO nS xs lg_400)) (am_cF_to (by with_unfolding_all rfl)) rfl (by with_unfolding_all rfl) ?_
  show am_Wp _ 167 101 _ _ _ _
  refine wp_step (e := (.dup, 1, 0, 0, 0)) (q := (102, [.ref 205], [.ref 213, .ref 213, .ref 205], hO nS xs lg_400)) (am_cF_to (by with_unfolding_all rfl)) rfl (by with_unfolding_all rfl) ?_
  show am_Wp _ 167 102 _ _ _ _
  refine wp_step (e := (.bipush 6, 2, 0, 0, 0)) (q := (104, [.ref 205], [.int 6, .ref 213, .ref 213, .ref 205], hO nS xs lg_400)) (am_cF_to (by with_unfolding_all rfl)) rfl (by with_unfolding_all rfl) ?_
  show am_Wp _ 167 104 _ _ _ _
  refine wp_step (e := (.bipush 32, 2, 0, 0, 0)) (q := (106, [.ref 205], [.int 32, .int 6, .ref 213, .ref 213, .ref 205], hO nS xs lg_400)) (am_cF_to (by with_unfolding_all rfl)) rfl (by with_unfolding_all rfl) ?_
  show am_Wp _ 167 106 _ _ _ _
  refine wp_step (e := (.iastore, 1, 0, 0, 0)) (q := (107, [.ref 205], [.ref 213, .ref 205], hO nS xs lg_401)) (am_cF_to (by with_unfolding_all rfl)) rfl (by with_unfolding_all rfl) ?_
  show am_Wp _ 167 107 _ _ _ _
  refine wp_step (e := (.dup, 1, 0, 0, 0)) (q := (108, [.ref 205], [.ref 213, .ref 213, .ref 205], hO nS xs lg_401)) (am_cF_to (by with_unfolding_all rfl)) rfl (by with_unfolding_all rfl) ?_
  show am_Wp _ 167 108 _ _ _ _
  refine wp_step (e := (.bipush 7, 2, 0, 0, 0)) (q := (110, [.ref 205], [.int 7, .ref 213, .ref 213, .ref 205], hO nS xs lg_401)) (am_cF_to (by with_unfolding_all rfl)) rfl (by with_unfolding_all rfl) ?_
  show am_Wp _ 167 110 _ _ _ _
  refine wp_step (e := (.bipush 102, 2, 0, 0, 0)) (q := (112, [.ref 205], [.int 102, .int 7, .ref 213, .ref 213, .ref 205], hO nS xs lg_401)) (am_cF_to (by with_unfolding_all rfl)) rfl (by with_unfolding_all rfl) ?_
  show am_Wp _ 167 112 _ _ _ _
  refine wp_step (e := (.iastore, 1, 0, 0, 0)) (q := (113, [.ref 205], [.ref 213, .ref 205], hO nS xs lg_402)) (am_cF_to (by with_unfolding_all rfl)) rfl (by with_unfolding_all rfl) ?_
  show am_Wp _ 167 113 _ _ _ _
  refine wp_step (e := (.dup, 1, 0, 0, 0)) (q := (114, [.ref 205], [.ref 213, .ref 213, .ref 205], hO nS xs lg_402)) (am_cF_to (by with_unfolding_all rfl)) rfl (by with_unfolding_all rfl) ?_
  show am_Wp _ 167 114 _ _ _ _
  refine wp_step (e := (.bipush 8, 2, 0, 0, 0)) (q := (116, [.ref 205], [.int 8, .ref 213, .ref 213, .ref 205], hO nS xs lg_402)) (am_cF_to (by with_unfolding_all rfl)) rfl (by with_unfolding_all rfl) ?_
  show am_Wp _ 167 116 _ _ _ _
  refine wp_step (e := (.bipush 97, 2, 0, 0, 0)) (q := (118, [.ref 205], [.int 97, .int 8, .ref 213, .ref 213, .ref 205], hO nS xs lg_402)) (am_cF_to (by with_unfolding_all rfl)) rfl (by with_unfolding_all rfl) ?_
  show am_Wp _ 167 118 _ _ _ _
  refine wp_step (e := (.iastore, 1, 0, 0, 0)) (q := (119, [.ref 205], [.ref 213, .ref 205], hO nS xs lg_403)) (am_cF_to (by with_unfolding_all rfl)) rfl (by with_unfolding_all rfl) ?_
  show am_Wp _ 167 119 _ _ _ _
  refine wp_step (e := (.dup, 1, 0, 0, 0)) (q := (120, [.ref 205], [.ref 213, .ref 213, .ref 205], hO nS xs lg_403)) (am_cF_to (by with_unfolding_all rfl)) rfl (by with_unfolding_all rfl) ?_
  show am_Wp _ 167 120 _ _ _ _
  refine wp_step (e := (.bipush 9, 2, 0, 0, 0)) (q := (122, [.ref 205], [.int 9, .ref 213, .ref 213, .ref 205], hO nS xs lg_403)) (am_cF_to (by with_unfolding_all rfl)) rfl (by with_unfolding_all rfl) ?_
  show am_Wp _ 167 122 _ _ _ _
  refine wp_step (e := (.bipush 108, 2, 0, 0, 0)) (q := (124, [.ref 205], [.int 108, .int 9, .ref 213, .ref 213, .ref 205], hO nS xs lg_403)) (am_cF_to (by with_unfolding_all rfl)) rfl (by with_unfolding_all rfl) ?_
  show am_Wp _ 167 124 _ _ _ _
  refine wp_step (e := (.iastore, 1, 0, 0, 0)) (q := (125, [.ref 205], [.ref 213, .ref 205], hO nS xs lg_404)) (am_cF_to (by with_unfolding_all rfl)) rfl (by with_unfolding_all rfl) ?_
  show am_Wp _ 167 125 _ _ _ _
  refine wp_step (e := (.dup, 1, 0, 0, 0)) (q := (126, [.ref 205], [.ref 213, .ref 213, .ref 205], hO nS xs lg_404)) (am_cF_to (by with_unfolding_all rfl)) rfl (by with_unfolding_all rfl) ?_
  show am_Wp _ 167 126 _ _ _ _
  refine wp_step (e := (.bipush 10, 2, 0, 0, 0)) (q := (128, [.ref 205], [.int 10, .ref 213, .ref 213, .ref 205], hO nS xs lg_404)) (am_cF_to (by with_unfolding_all rfl)) rfl (by with_unfolding_all rfl) ?_
  show am_Wp _ 167 128 _ _ _ _
  refine wp_step (e := (.bipush 108, 2, 0, 0, 0)) (q := (130, [.ref 205], [.int 108, .int 10, .ref 213, .ref 213, .ref 205], hO nS xs lg_404)) (am_cF_to (by with_unfolding_all rfl)) rfl (by with_unfolding_all rfl) ?_
  show am_Wp _ 167 130 _ _ _ _
  refine wp_step (e := (.iastore, 1, 0, 0, 0)) (q := (131, [.ref 205], [.ref 213, .ref 205], hO nS xs lg_405)) (am_cF_to (by with_unfolding_all rfl)) rfl (by with_unfolding_all rfl) ?_
  show am_Wp _ 167 131 _ _ _ _
  refine wp_step (e := (.dup, 1, 0, 0, 0)) (q := (132, [.ref 205], [.ref 213, .ref 213, .ref 205], hO nS xs lg_405)) (am_cF_to (by with_unfolding_all rfl)) rfl (by with_unfolding_all rfl) ?_
  show am_Wp _ 167 132 _ _ _ _
  refine wp_step (e := (.bipush 11, 2, 0, 0, 0)) (q := (134, [.ref 205], [.int 11, .ref 213, .ref 213, .ref 205], hO nS xs lg_405)) (am_cF_to (by with_unfolding_all rfl)) rfl (by with_unfolding_all rfl) ?_
  show am_Wp _ 167 134 _ _ _ _
  refine wp_step (e := (.bipush 115, 2, 0, 0, 0)) (q := (136, [.ref 205], [.int 115, .int 11, .ref 213, .ref 213, .ref 205], hO nS xs lg_405)) (am_cF_to (by with_unfolding_all rfl)) rfl (by with_unfolding_all rfl) ?_
  show am_Wp _ 167 136 _ _ _ _
  refine wp_step (e := (.iastore, 1, 0, 0, 0)) (q := (137, [.ref 205], [.ref 213, .ref 205], hO nS xs lg_406)) (am_cF_to (by with_unfolding_all rfl)) rfl (by with_unfolding_all rfl) ?_
  show am_Wp _ 167 137 _ _ _ _
  refine wp_step (e := (.dup, 1, 0, 0, 0)) (q := (138, [.ref 205], [.ref 213, .ref 213, .ref 205], hO nS xs lg_406)) (am_cF_to (by with_unfolding_all rfl)) rfl (by with_unfolding_all rfl) ?_
  show am_Wp _ 167 138 _ _ _ _
  refine wp_step (e := (.bipush 12, 2, 0, 0, 0)) (q := (140, [.ref 205], [.int 12, .ref 213, .ref 213, .ref 205], hO nS xs lg_406)) (am_cF_to (by with_unfolding_all rfl)) rfl (by with_unfolding_all rfl) ?_
  show am_Wp _ 167 140 _ _ _ _
  refine wp_step (e := (.bipush 32, 2, 0, 0, 0)) (q := (142, [.ref 205], [.int 32, .int 12, .ref 213, .ref 213, .ref 205], hO nS xs lg_406)) (am_cF_to (by with_unfolding_all rfl)) rfl (by with_unfolding_all rfl) ?_
  show am_Wp _ 167 142 _ _ _ _
  refine wp_step (e := (.iastore, 1, 0, 0, 0)) (q := (143, [.ref 205], [.ref 213, .ref 205], hO nS xs lg_407)) (am_cF_to (by with_unfolding_all rfl)) rfl (by with_unfolding_all rfl) ?_
  show am_Wp _ 167 143 _ _ _ _
  refine wp_step (e := (.dup, 1, 0, 0, 0)) (q := (144, [.ref 205], [.ref 213, .ref 213, .ref 205], hO nS xs lg_407)) (am_cF_to (by with_unfolding_all rfl)) rfl (by with_unfolding_all rfl) ?_
  show am_Wp _ 167 144 _ _ _ _
  refine wp_step (e := (.bipush 13, 2, 0, 0, 0)) (q := (146, [.ref 205], [.int 13, .ref 213, .ref 213, .ref 205], hO nS xs lg_407)) (am_cF_to (by with_unfolding_all rfl)) rfl (by with_unfolding_all rfl) ?_
  show am_Wp _ 167 146 _ _ _ _
  refine wp_step (e := (.bipush 97, 2, 0, 0, 0)) (q := (148, [.ref 205], [.int 97, .int 13, .ref 213, .ref 213, .ref 205], hO nS xs lg_407)) (am_cF_to (by with_unfolding_all rfl)) rfl (by with_unfolding_all rfl) ?_
  show am_Wp _ 167 148 _ _ _ _
  refine wp_step (e := (.iastore, 1, 0, 0, 0)) (q := (149, [.ref 205], [.ref 213, .ref 205], hO nS xs lg_408)) (am_cF_to (by with_unfolding_all rfl)) rfl (by with_unfolding_all rfl) ?_
  show am_Wp _ 167 149 _ _ _ _
  refine wp_step (e := (.dup, 1, 0, 0, 0)) (q := (150, [.ref 205], [.ref 213, .ref 213, .ref 205], hO nS xs lg_408)) (am_cF_to (by with_unfolding_all rfl)) rfl (by with_unfolding_all rfl) ?_
  show am_Wp _ 167 150 _ _ _ _
  refine wp_step (e := (.bipush 14, 2, 0, 0, 0)) (q := (152, [.ref 205], [.int 14, .ref 213, .ref 213, .ref 205], hO nS xs lg_408)) (am_cF_to (by with_unfolding_all rfl)) rfl (by with_unfolding_all rfl) ?_
  show am_Wp _ 167 152 _ _ _ _
  refine wp_step (e := (.bipush 115, 2, 0, 0, 0)) (q := (154, [.ref 205], [.int 115, .int 14, .ref 213, .ref 213, .ref 205], hO nS xs lg_408)) (am_cF_to (by with_unfolding_all rfl)) rfl (by with_unfolding_all rfl) ?_
  show am_Wp _ 167 154 _ _ _ _
  refine wp_step (e := (.iastore, 1, 0, 0, 0)) (q := (155, [.ref 205], [.ref 213, .ref 205], hO nS xs lg_409)) (am_cF_to (by with_unfolding_all rfl)) rfl (by with_unfolding_all rfl) ?_
  show am_Wp _ 167 155 _ _ _ _
  refine wp_step (e := (.dup, 1, 0, 0, 0)) (q := (156, [.ref 205], [.ref 213, .ref 213, .ref 205], hO nS xs lg_409)) (am_cF_to (by with_unfolding_all rfl)) rfl (by with_unfolding_all rfl) ?_
  show am_Wp _ 167 156 _ _ _ _
  refine wp_step (e := (.bipush 15, 2, 0, 0, 0)) (q := (158, [.ref 205], [.int 15, .ref 213, .ref 213, .ref 205], hO nS xs lg_409)) (am_cF_to (by with_unfolding_all rfl)) rfl (by with_unfolding_all rfl) ?_
  show am_Wp _ 167 158 _ _ _ _
  refine wp_step (e := (.bipush 107, 2, 0, 0, 0)) (q := (160, [.ref 205], [.int 107, .int 15, .ref 213, .ref 213, .ref 205], hO nS xs lg_409)) (am_cF_to (by with_unfolding_all rfl)) rfl (by with_unfolding_all rfl) ?_
  show am_Wp _ 167 160 _ _ _ _
  refine wp_step (e := (.iastore, 1, 0, 0, 0)) (q := (161, [.ref 205], [.ref 213, .ref 205], hO nS xs lg_410)) (am_cF_to (by with_unfolding_all rfl)) rfl (by with_unfolding_all rfl) ?_
  show am_Wp _ 167 161 _ _ _ _
  refine wp_step (e := (.dup, 1, 0, 0, 0)) (q := (162, [.ref 205], [.ref 213, .ref 213, .ref 205], hO nS xs lg_410)) (am_cF_to (by with_unfolding_all rfl)) rfl (by with_unfolding_all rfl) ?_
  show am_Wp _ 167 162 _ _ _ _
  refine wp_step (e := (.bipush 16, 2, 0, 0, 0)) (q := (164, [.ref 205], [.int 16, .ref 213, .ref 213, .ref 205], hO nS xs lg_410)) (am_cF_to (by with_unfolding_all rfl)) rfl (by with_unfolding_all rfl) ?_
  show am_Wp _ 167 164 _ _ _ _
  refine wp_step (e := (.bipush 115, 2, 0, 0, 0)) (q := (166, [.ref 205], [.int 115, .int 16, .ref 213, .ref 213, .ref 205], hO nS xs lg_410)) (am_cF_to (by with_unfolding_all rfl)) rfl (by with_unfolding_all rfl) ?_
  show am_Wp _ 167 166 _ _ _ _
  refine wp_step (e := (.iastore, 1, 0, 0, 0)) (q := (167, [.ref 205], [.ref 213, .ref 205], hO nS xs lg_411)) (am_cF_to (by with_unfolding_all rfl)) rfl (by with_unfolding_all rfl) ?_
  show am_Wp _ 167 167 _ _ _ _
  refine wp_step (e := (.dup, 1, 0, 0, 0)) (q := (168, [.ref 205], [.ref 213, .ref 213, .ref 205], hO nS xs lg_411)) (am_cF_to (by with_unfolding_all rfl)) rfl (by with_unfolding_all rfl) ?_
  show am_Wp _ 167 168 _ _ _ _
  refine wp_step (e := (.bipush 17, 2, 0, 0, 0)) (q := (170, [.ref 205], [.int 17, .ref 213, .ref 213, .ref 205], hO nS xs lg_411)) (am_cF_to (by with_unfolding_all rfl)) rfl (by with_unfolding_all rfl) ?_
  show am_Wp _ 167 170 _ _ _ _
  refine wp_step (e := (.bipush 32, 2, 0, 0, 0)) (q := (172, [.ref 205], [.int 32, .int 17, .ref 213, .ref 213, .ref 205], hO nS xs lg_411)) (am_cF_to (by with_unfolding_all rfl)) rfl (by with_unfolding_all rfl) ?_
  show am_Wp _ 167 172 _ _ _ _
  refine wp_step (e := (.iastore, 1, 0, 0, 0)) (q := (173, [.ref 205], [.ref 213, .ref 205], hO nS xs lg_412)) (am_cF_to (by with_unfolding_all rfl)) rfl (by with_unfolding_all rfl) ?_
  show am_Wp _ 167 173 _ _ _ _
  refine wp_step (e := (.dup, 1, 0, 0, 0)) (q := (174, [.ref 205], [.ref 213, .ref 213, .ref 205], hO nS xs lg_412)) (am_cF_to (by with_unfolding_all rfl)) rfl (by with_unfolding_all rfl) ?_
  show am_Wp _ 167 174 _ _ _ _
  refine wp_step (e := (.bipush 18, 2, 0, 0, 0)) (q := (176, [.ref 205], [.int 18, .ref 213, .ref 213, .ref 205], hO nS xs lg_412)) (am_cF_to (by with_unfolding_all rfl)) rfl (by with_unfolding_all rfl) ?_
  show am_Wp _ 167 176 _ _ _ _
  refine wp_step (e := (.bipush 119, 2, 0, 0, 0)) (q := (178, [.ref 205], [.int 119, .int 18, .ref 213, .ref 213, .ref 205], hO nS xs lg_412)) (am_cF_to (by with_unfolding_all rfl)) rfl (by with_unfolding_all rfl) ?_
  show am_Wp _ 167 178 _ _ _ _
  refine wp_step (e := (.iastore, 1, 0, 0, 0)) (q := (179, [.ref 205], [.ref 213, .ref 205], hO nS xs lg_413)) (am_cF_to (by with_unfolding_all rfl)) rfl (by with_unfolding_all rfl) ?_
  show am_Wp _ 167 179 _ _ _ _
  refine wp_step (e := (.dup, 1, 0, 0, 0)) (q := (180, [.ref 205], [.ref 213, .ref 213, .ref 205], hO nS xs lg_413)) (am_cF_to (by with_unfolding_all rfl)) rfl (by with_unfolding_all rfl) ?_
  show am_Wp _ 167 180 _ _ _ _
  refine wp_step (e := (.bipush 19, 2, 0, 0, 0)) (q := (182, [.ref 205], [.int 19, .ref 213, .ref 213, .ref 205], hO nS xs lg_413)) (am_cF_to (by with_unfolding_all rfl)) rfl (by with_unfolding_all rfl) ?_
  show am_Wp _ 167 182 _ _ _ _
  refine wp_step (e := (.bipush 104, 2, 0, 0, 0)) (q := (184, [.ref 205], [.int 104, .int 19, .ref 213, .ref 213, .ref 205], hO nS xs lg_413)) (am_cF_to (by with_unfolding_all rfl)) rfl (by with_unfolding_all rfl) ?_
  show am_Wp _ 167 184 _ _ _ _
  refine wp_step (e := (.iastore, 1, 0, 0, 0)) (q := (185, [.ref 205], [.ref 213, .ref 205], hO nS xs lg_414)) (am_cF_to (by with_unfolding_all rfl)) rfl (by with_unfolding_all rfl) ?_
  show am_Wp _ 167 185 _ _ _ _
  refine wp_step (e := (.dup, 1, 0, 0, 0)) (q := (186, [.ref 205], [.ref 213, .ref 213, .ref 205], hO nS xs lg_414)) (am_cF_to (by with_unfolding_all rfl)) rfl (by with_unfolding_all rfl) ?_
  show am_Wp _ 167 186 _ _ _ _
  refine wp_step (e := (.bipush 20, 2, 0, 0, 0)) (q := (188, [.ref 205], [.int 20, .ref 213, .ref 213, .ref 205], hO nS xs lg_414)) (am_cF_to (by with_unfolding_all rfl)) rfl (by with_unfolding_all rfl) ?_
  show am_Wp _ 167 188 _ _ _ _
  refine wp_step (e := (.bipush 101, 2, 0, 0, 0)) (q := (190, [.ref 205], [.int 101, .int 20, .ref 213, .ref 213, .ref 205], hO nS xs lg_414)) (am_cF_to (by with_unfolding_all rfl)) rfl (by with_unfolding_all rfl) ?_
  show am_Wp _ 167 190 _ _ _ _
  refine wp_step (e := (.iastore, 1, 0, 0, 0)) (q := (191, [.ref 205], [.ref 213, .ref 205], hO nS xs lg_415)) (am_cF_to (by with_unfolding_all rfl)) rfl (by with_unfolding_all rfl) ?_
  show am_Wp _ 167 191 _ _ _ _
  refine wp_step (e := (.dup, 1, 0, 0, 0)) (q := (192, [.ref 205], [.ref 213, .ref 213, .ref 205], hO nS xs lg_415)) (am_cF_to (by with_unfolding_all rfl)) rfl (by with_unfolding_all rfl) ?_
  show am_Wp _ 167 192 _ _ _ _
  refine wp_step (e := (.bipush 21, 2, 0, 0, 0)) (q := (194, [.ref 205], [.int 21, .ref 213, .ref 213, .ref 205], hO nS xs lg_415)) (am_cF_to (by with_unfolding_all rfl)) rfl (by with_unfolding_all rfl) ?_
  show am_Wp _ 167 194 _ _ _ _
  refine wp_step (e := (.bipush 110, 2, 0, 0, 0)) (q := (196, [.ref 205], [.int 110, .int 21, .ref 213, .ref 213, .ref 205], hO nS xs lg_415)) (am_cF_to (by with_unfolding_all rfl)) rfl (by with_unfolding_all rfl) ?_
  show am_Wp _ 167 196 _ _ _ _
  refine wp_step (e := (.iastore, 1, 0, 0, 0)) (q := (197, [.ref 205], [.ref 213, .ref 205], hO nS xs lg_416)) (am_cF_to (by with_unfolding_all rfl)) rfl (by with_unfolding_all rfl) ?_
  show am_Wp _ 167 197 _ _ _ _
  refine wp_step (e := (.dup, 1, 0, 0, 0)) (q := (198, [.ref 205], [.ref 213, .ref 213, .ref 205], hO nS xs lg_416)) (am_cF_to (by with_unfolding_all rfl)) rfl (by with_unfolding_all rfl) ?_
  show am_Wp _ 167 198 _ _ _ _
  refine wp_step (e := (.bipush 22, 2, 0, 0, 0)) (q := (200, [.ref 205], [.int 22, .ref 213, .ref 213, .ref 205], hO nS xs lg_416)) (am_cF_to (by with_unfolding_all rfl)) rfl (by with_unfolding_all rfl) ?_
  show am_Wp _ 167 200 _ _ _ _
  refine wp_step (e := (.bipush 32, 2, 0, 0, 0)) (q := (202, [.ref 205], [.int 32, .int 22, .ref 213, .ref 213, .ref 205], hO nS xs lg_416)) (am_cF_to (by with_unfolding_all rfl)) rfl (by with_unfolding_all rfl) ?_
  show am_Wp _ 167 202 _ _ _ _
  refine wp_step (e := (.iastore, 1, 0, 0, 0)) (q := (203, [.ref 205], [.ref 213, .ref 205], hO nS xs lg_417)) (am_cF_to (by with_unfolding_all rfl)) rfl (by with_unfolding_all rfl) ?_
  show am_Wp _ 167 203 _ _ _ _
  refine wp_step (e := (.dup, 1, 0, 0, 0)) (q := (204, [.ref 205], [.ref 213, .ref 213, .ref 205], hO nS xs lg_417)) (am_cF_to (by with_unfolding_all rfl)) rfl (by with_unfolding_all rfl) ?_
  show am_Wp _ 167 204 _ _ _ _
  refine wp_step (e := (.bipush 23, 2, 0, 0, 0)) (q := (206, [.ref 205], [.int 23, .ref 213, .ref 213, .ref 205], hO nS xs lg_417)) (am_cF_to (by with_unfolding_all rfl)) rfl (by with_unfolding_all rfl) ?_
  show am_Wp _ 167 206 _ _ _ _
  refine wp_step (e := (.bipush 111, 2, 0, 0, 0)) (q := (208, [.ref 205], [.int 111, .int 23, .ref 213, .ref 213, .ref 205], hO nS xs lg_417)) (am_cF_to (by with_unfolding_all rfl)) rfl (by with_unfolding_all rfl) ?_
  show am_Wp _ 167 208 _ _ _ _
  refine wp_step (e := (.iastore, 1, 0, 0, 0)) (q := (209, [.ref 205], [.ref 213, .ref 205], hO nS xs lg_418)) (am_cF_to (by with_unfolding_all rfl)) rfl (by with_unfolding_all rfl) ?_
  show am_Wp _ 167 209 _ _ _ _
  refine wp_step (e := (.dup, 1, 0, 0, 0)) (q := (210, [.ref 205], [.ref 213, .ref 213, .ref 205], hO nS xs lg_418)) (am_cF_to (by with_unfolding_all rfl)) rfl (by with_unfolding_all rfl) ?_
  show am_Wp _ 167 210 _ _ _ _
  refine wp_step (e := (.bipush 24, 2, 0, 0, 0)) (q := (212, [.ref 205], [.int 24, .ref 213, .ref 213, .ref 205], hO nS xs lg_418)) (am_cF_to (by with_unfolding_all rfl)) rfl (by with_unfolding_all rfl) ?_
  show am_Wp _ 167 212 _ _ _ _
  refine wp_step (e := (.bipush 114, 2, 0, 0, 0)) (q := (214, [.ref 205], [.int 114, .int 24, .ref 213, .ref 213, .ref 205], hO nS xs lg_418)) (am_cF_to (by with_unfolding_all rfl)) rfl (by with_unfolding_all rfl) ?_
  show am_Wp _ 167 214 _ _ _ _
  refine wp_step (e := (.iastore, 1, 0, 0, 0)) (q := (215, [.ref 205], [.ref 213, .ref 205], hO nS xs lg_419)) (am_cF_to (by with_unfolding_all rfl)) rfl (by with_unfolding_all rfl) ?_
  show am_Wp _ 167 215 _ _ _ _
  refine wp_step (e := (.dup, 1, 0, 0, 0)) (q := (216, [.ref 205], [.ref 213, .ref 213, .ref 205], hO nS xs lg_419)) (am_cF_to (by with_unfolding_all rfl)) rfl (by with_unfolding_all rfl) ?_
  show am_Wp _ 167 216 _ _ _ _
  refine wp_step (e := (.bipush 25, 2, 0, 0, 0)) (q := (218, [.ref 205], [.int 25, .ref 213, .ref 213, .ref 205], hO nS xs lg_419)) (am_cF_to (by with_unfolding_all rfl)) rfl (by with_unfolding_all rfl) ?_
  show am_Wp _ 167 218 _ _ _ _
  refine wp_step (e := (.bipush 32, 2, 0, 0, 0)) (q := (220, [.ref 205], [.int 32, .int 25, .ref 213, .ref 213, .ref 205], hO nS xs lg_419)) (am_cF_to (by with_unfolding_all rfl)) rfl (by with_unfolding_all rfl) ?_
  show am_Wp _ 167 220 _ _ _ _
  refine wp_step (e := (.iastore, 1, 0, 0, 0)) (q := (221, [.ref 205], [.ref 213, .ref 205], hO nS xs lg_420)) (am_cF_to (by with_unfolding_all rfl)) rfl (by with_unfolding_all rfl) ?_
  show am_Wp _ 167 221 _ _ _ _
  refine wp_step (e := (.dup, 1, 0, 0, 0)) (q := (222, [.ref 205], [.ref 213, .ref 213, .ref 205], hO nS xs lg_420)) (am_cF_to (by with_unfolding_all rfl)) rfl (by with_unfolding_all rfl) ?_
  show am_Wp _ 167 222 _ _ _ _
  refine wp_step (e := (.bipush 26, 2, 0, 0, 0)) (q := (224, [.ref 205], [.int 26, .ref 213, .ref 213, .ref 205], hO nS xs lg_420)) (am_cF_to (by with_unfolding_all rfl)) rfl (by with_unfolding_all rfl) ?_
  show am_Wp _ 167 224 _ _ _ _
  refine wp_step (e := (.bipush 97, 2, 0, 0, 0)) (q := (226, [.ref 205], [.int 97, .int 26, .ref 213, .ref 213, .ref 205], hO nS xs lg_420)) (am_cF_to (by with_unfolding_all rfl)) rfl (by with_unfolding_all rfl) ?_
  show am_Wp _ 167 226 _ _ _ _
  refine wp_step (e := (.iastore, 1, 0, 0, 0)) (q := (227, [.ref 205], [.ref 213, .ref 205], hO nS xs lg_421)) (am_cF_to (by with_unfolding_all rfl)) rfl (by with_unfolding_all rfl) ?_
  show am_Wp _ 167 227 _ _ _ _
  refine wp_step (e := (.dup, 1, 0, 0, 0)) (q := (228, [.ref 205], [.ref 213, .ref 213, .ref 205], hO nS xs lg_421)) (am_cF_to (by with_unfolding_all rfl)) rfl (by with_unfolding_all rfl) ?_
  show am_Wp _ 167 228 _ _ _ _
  refine wp_step (e := (.bipush 27, 2, 0, 0, 0)) (q := (230, [.ref 205], [.int 27, .ref 213, .ref 213, .ref 205], hO nS xs lg_421)) (am_cF_to (by with_unfolding_all rfl)) rfl (by with_unfolding_all rfl) ?_
  show am_Wp _ 167 230 _ _ _ _
  refine wp_step (e := (.bipush 110, 2, 0, 0, 0)) (q := (232, [.ref 205], [.int 110, .int 27, .ref 213, .ref 213, .ref 205], hO nS xs lg_421)) (am_cF_to (by with_unfolding_all rfl)) rfl (by with_unfolding_all rfl) ?_
  show am_Wp _ 167 232 _ _ _ _
  refine wp_step (e := (.iastore, 1, 0, 0, 0)) (q := (233, [.ref 205], [.ref 213, .ref 205], hO nS xs lg_422)) (am_cF_to (by with_unfolding_all rfl)) rfl (by with_unfolding_all rfl) ?_
  show am_Wp _ 167 233 _ _ _ _
  refine wp_step (e := (.dup, 1, 0, 0, 0)) (q := (234, [.ref 205], [.ref 213, .ref 213, .ref 205], hO nS xs lg_422)) (am_cF_to (by with_unfolding_all rfl)) rfl (by with_unfolding_all rfl) ?_
  show am_Wp _ 167 234 _ _ _ _
  refine wp_step (e := (.bipush 28, 2, 0, 0, 0)) (q := (236, [.ref 205], [.int 28, .ref 213, .ref 213, .ref 205], hO nS xs lg_422)) (am_cF_to (by with_unfolding_all rfl)) rfl (by with_unfolding_all rfl) ?_
  show am_Wp _ 167 236 _ _ _ _
  refine wp_step (e := (.bipush 100, 2, 0, 0, 0)) (q := (238, [.ref 205], [.int 100, .int 28, .ref 213, .ref 213, .ref 205], hO nS xs lg_422)) (am_cF_to (by with_unfolding_all rfl)) rfl (by with_unfolding_all rfl) ?_
  show am_Wp _ 167 238 _ _ _ _
  refine wp_step (e := (.iastore, 1, 0, 0, 0)) (q := (239, [.ref 205], [.ref 213, .ref 205], hO nS xs lg_423)) (am_cF_to (by with_unfolding_all rfl)) rfl (by with_unfolding_all rfl) ?_
  show am_Wp _ 167 239 _ _ _ _
  refine wp_step (e := (.dup, 1, 0, 0, 0)) (q := (240, [.ref 205], [.ref 213, .ref 213, .ref 205], hO nS xs lg_423)) (am_cF_to (by with_unfolding_all rfl)) rfl (by with_unfolding_all rfl) ?_
  show am_Wp _ 167 240 _ _ _ _
  refine wp_step (e := (.bipush 29, 2, 0, 0, 0)) (q := (242, [.ref 205], [.int 29, .ref 213, .ref 213, .ref 205], hO nS xs lg_423)) (am_cF_to (by with_unfolding_all rfl)) rfl (by with_unfolding_all rfl) ?_
  show am_Wp _ 167 242 _ _ _ _
  refine wp_step (e := (.bipush 32, 2, 0, 0, 0)) (q := (244, [.ref 205], [.int 32, .int 29, .ref 213, .ref 213, .ref 205], hO nS xs lg_423)) (am_cF_to (by with_unfolding_all rfl)) rfl (by with_unfolding_all rfl) ?_
  show am_Wp _ 167 244 _ _ _ _
  refine wp_step (e := (.iastore, 1, 0, 0, 0)) (q := (245, [.ref 205], [.ref 213, .ref 205], hO nS xs lg_424)) (am_cF_to (by with_unfolding_all rfl)) rfl (by with_unfolding_all rfl) ?_
  show am_Wp _ 167 245 _ _ _ _
  refine wp_step (e := (.dup, 1, 0, 0, 0)) (q := (246, [.ref 205], [.ref 213, .ref 213, .ref 205], hO nS xs lg_424)) (am_cF_to (by with_unfolding_all rfl)) rfl (by with_unfolding_all rfl) ?_
  show am_Wp _ 167 246 _ _ _ _
  refine wp_step (e := (.bipush 30, 2, 0, 0, 0)) (q := (248, [.ref 205], [.int 30, .ref 213, .ref 213, .ref 205], hO nS xs lg_424)) (am_cF_to (by with_unfolding_all rfl)) rfl (by with_unfolding_all rfl) ?_
  show am_Wp _ 167 248 _ _ _ _
  refine wp_step (e := (.bipush 110, 2, 0, 0, 0)) (q := (250, [.ref 205], [.int 110, .int 30, .ref 213, .ref 213, .ref 205], hO nS xs lg_424)) (am_cF_to (by with_unfolding_all rfl)) rfl (by with_unfolding_all rfl) ?_
  show am_Wp _ 167 250 _ _ _ _
  refine wp_step (e := (.iastore, 1, 0, 0, 0)) (q := (251, [.ref 205], [.ref 213, .ref 205], hO nS xs lg_425)) (am_cF_to (by with_unfolding_all rfl)) rfl (by with_unfolding_all rfl) ?_
  show am_Wp _ 167 251 _ _ _ _
  refine wp_step (e := (.dup, 1, 0, 0, 0)) (q := (252, [.ref 205], [.ref 213, .ref 213, .ref 205], hO nS xs lg_425)) (am_cF_to (by with_unfolding_all rfl)) rfl (by with_unfolding_all rfl) ?_
  show am_Wp _ 167 252 _ _ _ _
  refine wp_step (e := (.bipush 31, 2, 0, 0, 0)) (q := (254, [.ref 205], [.int 31, .ref 213, .ref 213, .ref 205], hO nS xs lg_425)) (am_cF_to (by with_unfolding_all rfl)) rfl (by with_unfolding_all rfl) ?_
  show am_Wp _ 167 254 _ _ _ _
  refine wp_step (e := (.bipush 111, 2, 0, 0, 0)) (q := (256, [.ref 205], [.int 111, .int 31, .ref 213, .ref 213, .ref 205], hO nS xs lg_425)) (am_cF_to (by with_unfolding_all rfl)) rfl (by with_unfolding_all rfl) ?_
  show am_Wp _ 167 256 _ _ _ _
  refine wp_step (e := (.iastore, 1, 0, 0, 0)) (q := (257, [.ref 205], [.ref 213, .ref 205], hO nS xs lg_426)) (am_cF_to (by with_unfolding_all rfl)) rfl (by with_unfolding_all rfl) ?_
  show am_Wp _ 167 257 _ _ _ _
  refine wp_step (e := (.dup, 1, 0, 0, 0)) (q := (258, [.ref 205], [.ref 213, .ref 213, .ref 205], hO nS xs lg_426)) (am_cF_to (by with_unfolding_all rfl)) rfl (by with_unfolding_all rfl) ?_
  show am_Wp _ 167 258 _ _ _ _
  refine wp_step (e := (.bipush 32, 2, 0, 0, 0)) (q := (260, [.ref 205], [.int 32, .ref 213, .ref 213, .ref 205], hO nS xs lg_426)) (am_cF_to (by with_unfolding_all rfl)) rfl (by with_unfolding_all rfl) ?_
  show am_Wp _ 167 260 _ _ _ _
  refine wp_step (e := (.bipush 116, 2, 0, 0, 0)) (q := (262, [.ref 205], [.int 116, .int 32, .ref 213, .ref 213, .ref 205], hO nS xs lg_426)) (am_cF_to (by with_unfolding_all rfl)) rfl (by with_unfolding_all rfl) ?_
  show am_Wp _ 167 262 _ _ _ _
  refine wp_step (e := (.iastore, 1, 0, 0, 0)) (q := (263, [.ref 205], [.ref 213, .ref 205], hO nS xs lg_427)) (am_cF_to (by with_unfolding_all rfl)) rfl (by with_unfolding_all rfl) ?_
  show am_Wp _ 167 263 _ _ _ _
  refine wp_step (e := (.dup, 1, 0, 0, 0)) (q := (264, [.ref 205], [.ref 213, .ref 213, .ref 205], hO nS xs lg_427)) (am_cF_to (by with_unfolding_all rfl)) rfl (by with_unfolding_all rfl) ?_
  show am_Wp _ 167 264 _ _ _ _
  refine wp_step (e := (.bipush 33, 2, 0, 0, 0)) (q := (266, [.ref 205], [.int 33, .ref 213, .ref 213, .ref 205], hO nS xs lg_427)) (am_cF_to (by with_unfolding_all rfl)) rfl (by with_unfolding_all rfl) ?_
  show am_Wp _ 167 266 _ _ _ _
  refine wp_step (e := (.bipush 32, 2, 0, 0, 0)) (q := (268, [.ref 205], [.int 32, .int 33, .ref 213, .ref 213, .ref 205], hO nS xs lg_427)) (am_cF_to (by with_unfolding_all rfl)) rfl (by with_unfolding_all rfl) ?_
  show am_Wp _ 167 268 _ _ _ _
  refine wp_step (e := (.iastore, 1, 0, 0, 0)) (q := (269, [.ref 205], [.ref 213, .ref 205], hO nS xs lg_428)) (am_cF_to (by with_unfolding_all rfl)) rfl (by with_unfolding_all rfl) ?_
  show am_Wp _ 167 269 _ _ _ _
  refine wp_step (e := (.dup, 1, 0, 0, 0)) (q := (270, [.ref 205], [.ref 213, .ref 213, .ref 205], hO nS xs lg_428)) (am_cF_to (by with_unfolding_all rfl)) rfl (by with_unfolding_all rfl) ?_
  show am_Wp _ 167 270 _ _ _ _
  refine wp_step (e := (.bipush 34, 2, 0, 0, 0)) (q := (272, [.ref 205], [.int 34, .ref 213, .ref 213, .ref 205], hO nS xs lg_428)) (am_cF_to (by with_unfolding_all rfl)) rfl (by with_unfolding_all rfl) ?_
  show am_Wp _ 167 272 _ _ _ _
  refine wp_step (e := (.bipush 118, 2, 0, 0, 0)) (q := (274, [.ref 205], [.int 118, .int 34, .ref 213, .ref 213, .ref 205], hO nS xs lg_428)) (am_cF_to (by with_unfolding_all rfl)) rfl (by with_unfolding_all rfl) ?_
  show am_Wp _ 167 274 _ _ _ _
  refine wp_step (e := (.iastore, 1, 0, 0, 0)) (q := (275, [.ref 205], [.ref 213, .ref 205], hO nS xs lg_429)) (am_cF_to (by with_unfolding_all rfl)) rfl (by with_unfolding_all rfl) ?_
  show am_Wp _ 167 275 _ _ _ _
  refine wp_step (e := (.dup, 1, 0, 0, 0)) (q := (276, [.ref 205], [.ref 213, .ref 213, .ref 205], hO nS xs lg_429)) (am_cF_to (by with_unfolding_all rfl)) rfl (by with_unfolding_all rfl) ?_
  show am_Wp _ 167 276 _ _ _ _
  refine wp_step (e := (.bipush 35, 2, 0, 0, 0)) (q := (278, [.ref 205], [.int 35, .ref 213, .ref 213, .ref 205], hO nS xs lg_429)) (am_cF_to (by with_unfolding_all rfl)) rfl (by with_unfolding_all rfl) ?_
  show am_Wp _ 167 278 _ _ _ _
  refine wp_step (e := (.bipush 111, 2, 0, 0, 0)) (q := (280, [.ref 205], [.int 111, .int 35, .ref 213, .ref 213, .ref 205], hO nS xs lg_429)) (am_cF_to (by with_unfolding_all rfl)) rfl (by with_unfolding_all rfl) ?_
  show am_Wp _ 167 280 _ _ _ _
  refine wp_step (e := (.iastore, 1, 0, 0, 0)) (q := (281, [.ref 205], [.ref 213, .ref 205], hO nS xs lg_430)) (am_cF_to (by with_unfolding_all rfl)) rfl (by with_unfolding_all rfl) ?_
  show am_Wp _ 167 281 _ _ _ _
  refine wp_step (e := (.dup, 1, 0, 0, 0)) (q := (282, [.ref 205], [.ref 213, .ref 213, .ref 205], hO nS xs lg_430)) (am_cF_to (by with_unfolding_all rfl)) rfl (by with_unfolding_all rfl) ?_
  show am_Wp _ 167 282 _ _ _ _
  refine wp_step (e := (.bipush 36, 2, 0, 0, 0)) (q := (284, [.ref 205], [.int 36, .ref 213, .ref 213, .ref 205], hO nS xs lg_430)) (am_cF_to (by with_unfolding_all rfl)) rfl (by with_unfolding_all rfl) ?_
  show am_Wp _ 167 284 _ _ _ _
  refine wp_step (e := (.bipush 105, 2, 0, 0, 0)) (q := (286, [.ref 205], [.int 105, .int 36, .ref 213, .ref 213, .ref 205], hO nS xs lg_430)) (am_cF_to (by with_unfolding_all rfl)) rfl (by with_unfolding_all rfl) ?_
  show am_Wp _ 167 286 _ _ _ _
  refine wp_step (e := (.iastore, 1, 0, 0, 0)) (q := (287, [.ref 205], [.ref 213, .ref 205], hO nS xs lg_431)) (am_cF_to (by with_unfolding_all rfl)) rfl (by with_unfolding_all rfl) ?_
  show am_Wp _ 167 287 _ _ _ _
  refine wp_step (e := (.dup, 1, 0, 0, 0)) (q := (288, [.ref 205], [.ref 213, .ref 213, .ref 205], hO nS xs lg_431)) (am_cF_to (by with_unfolding_all rfl)) rfl (by with_unfolding_all rfl) ?_
  show am_Wp _ 167 288 _ _ _ _
  refine wp_step (e := (.bipush 37, 2, 0, 0, 0)) (q := (290, [.ref 205], [.int 37, .ref 213, .ref 213, .ref 205], hO nS xs lg_431)) (am_cF_to (by with_unfolding_all rfl)) rfl (by with_unfolding_all rfl) ?_
  show am_Wp _ 167 290 _ _ _ _
  refine wp_step (e := (.bipush 99, 2, 0, 0, 0)) (q := (292, [.ref 205], [.int 99, .int 37, .ref 213, .ref 213, .ref 205], hO nS xs lg_431)) (am_cF_to (by with_unfolding_all rfl)) rfl (by with_unfolding_all rfl) ?_
  show am_Wp _ 167 292 _ _ _ _
  refine wp_step (e := (.iastore, 1, 0, 0, 0)) (q := (293, [.ref 205], [.ref 213, .ref 205], hO nS xs lg_432)) (am_cF_to (by with_unfolding_all rfl)) rfl (by with_unfolding_all rfl) ?_
  show am_Wp _ 167 293 _ _ _ _
  refine wp_step (e := (.dup, 1, 0, 0, 0)) (q := (294, [.ref 205], [.ref 213, .ref 213, .ref 205], hO nS xs lg_432)) (am_cF_to (by with_unfolding_all rfl)) rfl (by with_unfolding_all rfl) ?_
  show am_Wp _ 167 294 _ _ _ _
  refine wp_step (e := (.bipush 38, 2, 0, 0, 0)) (q := (296, [.ref 205], [.int 38, .ref 213, .ref 213, .ref 205], hO nS xs lg_432)) (am_cF_to (by with_unfolding_all rfl)) rfl (by with_unfolding_all rfl) ?_
  show am_Wp _ 167 296 _ _ _ _
  refine wp_step (e := (.bipush 101, 2, 0, 0, 0)) (q := (298, [.ref 205], [.int 101, .int 38, .ref 213, .ref 213, .ref 205], hO nS xs lg_432)) (am_cF_to (by with_unfolding_all rfl)) rfl (by with_unfolding_all rfl) ?_
  show am_Wp _ 167 298 _ _ _ _
  refine wp_step (e := (.iastore, 1, 0, 0, 0)) (q := (299, [.ref 205], [.ref 213, .ref 205], hO nS xs lg_433)) (am_cF_to (by with_unfolding_all rfl)) rfl (by with_unfolding_all rfl) ?_
  show am_Wp _ 167 299 _ _ _ _
  refine wp_step (e := (.dup, 1, 0, 0, 0)) (q := (300, [.ref 205], [.ref 213, .ref 213, .ref 205], hO nS xs lg_433)) (am_cF_to (by with_unfolding_all rfl)) rfl (by with_unfolding_all rfl) ?_
  show am_Wp _ 167 300 _ _ _ _
  refine wp_step (e := (.bipush 39, 2, 0, 0, 0)) (q := (302, [.ref 205], [.int 39, .ref 213, .ref 213, .ref 205], hO nS xs lg_433)) (am_cF_to (by with_unfolding_all rfl)) rfl (by with_unfolding_all rfl) ?_
  show am_Wp _ 167 302 _ _ _ _
  refine wp_step (e := (.bipush 32, 2, 0, 0, 0)) (q := (304, [.ref 205], [.int 32, .int 39, .ref 213, .ref 213, .ref 205], hO nS xs lg_433)) (am_cF_to (by with_unfolding_all rfl)) rfl (by with_unfolding_all rfl) ?_
  show am_Wp _ 167 304 _ _ _ _
  refine wp_step (e := (.iastore, 1, 0, 0, 0)) (q := (305, [.ref 205], [.ref 213, .ref 205], hO nS xs lg_434)) (am_cF_to (by with_unfolding_all rfl)) rfl (by with_unfolding_all rfl) ?_
  show am_Wp _ 167 305 _ _ _ _
  refine wp_step (e := (.dup, 1, 0, 0, 0)) (q := (306, [.ref 205], [.ref 213, .ref 213, .ref 205], hO nS xs lg_434)) (am_cF_to (by with_unfolding_all rfl)) rfl (by with_unfolding_all rfl) ?_
  show am_Wp _ 167 306 _ _ _ _
  refine wp_step (e := (.bipush 40, 2, 0, 0, 0)) (q := (308, [.ref 205], [.int 40, .ref 213, .ref 213, .ref 205], hO nS xs lg_434)) (am_cF_to (by with_unfolding_all rfl)) rfl (by with_unfolding_all rfl) ?_
  show am_Wp _ 167 308 _ _ _ _
  refine wp_step (e := (.bipush 104, 2, 0, 0, 0)) (q := (310, [.ref 205], [.int 104, .int 40, .ref 213, .ref 213, .ref 205], hO nS xs lg_434)) (am_cF_to (by with_unfolding_all rfl)) rfl (by with_unfolding_all rfl) ?_
  show am_Wp _ 167 310 _ _ _ _
  refine wp_step (e := (.iastore, 1, 0, 0, 0)) (q := (311, [.ref 205], [.ref 213, .ref 205], hO nS xs lg_435)) (am_cF_to (by with_unfolding_all rfl)) rfl (by with_unfolding_all rfl) ?_
  show am_Wp _ 167 311 _ _ _ _
  refine wp_step (e := (.dup, 1, 0, 0, 0)) (q := (312, [.ref 205], [.ref 213, .ref 213, .ref 205], hO nS xs lg_435)) (am_cF_to (by with_unfolding_all rfl)) rfl (by with_unfolding_all rfl) ?_
  show am_Wp _ 167 312 _ _ _ _
  refine wp_step (e := (.bipush 41, 2, 0, 0, 0)) (q := (314, [.ref 205], [.int 41, .ref 213, .ref 213, .ref 205], hO nS xs lg_435)) (am_cF_to (by with_unfolding_all rfl)) rfl (by with_unfolding_all rfl) ?_
  show am_Wp _ 167 314 _ _ _ _
  refine wp_step (e := (.bipush 101, 2, 0, 0, 0)) (q := (316, [.ref 205], [.int 101, .int 41, .ref 213, .ref 213, .ref 205], hO nS xs lg_435)) (am_cF_to (by with_unfolding_all rfl)) rfl (by with_unfolding_all rfl) ?_
  show am_Wp _ 167 316 _ _ _ _
  refine wp_step (e := (.iastore, 1, 0, 0, 0)) (q := (317, [.ref 205], [.ref 213, .ref 205], hO nS xs lg_436)) (am_cF_to (by with_unfolding_all rfl)) rfl (by with_unfolding_all rfl) ?_
  show am_Wp _ 167 317 _ _ _ _
  refine wp_step (e := (.dup, 1, 0, 0, 0)) (q := (318, [.ref 205], [.ref 213, .ref 213, .ref 205], hO nS xs lg_436)) (am_cF_to (by with_unfolding_all rfl)) rfl (by with_unfolding_all rfl) ?_
  show am_Wp _ 167 318 _ _ _ _
  refine wp_step (e := (.bipush 42, 2, 0, 0, 0)) (q := (320, [.ref 205], [.int 42, .ref 213, .ref 213, .ref 205], hO nS xs lg_436)) (am_cF_to (by with_unfolding_all rfl)) rfl (by with_unfolding_all rfl) ?_
  show am_Wp _ 167 320 _ _ _ _
  refine wp_step (e := (.bipush 105, 2, 0, 0, 0)) (q := (322, [.ref 205], [.int 105, .int 42, .ref 213, .ref 213, .ref 205], hO nS xs lg_436)) (am_cF_to (by with_unfolding_all rfl)) rfl (by with_unfolding_all rfl) ?_
  show am_Wp _ 167 322 _ _ _ _
  refine wp_step (e := (.iastore, 1, 0, 0, 0)) (q := (323, [.ref 205], [.ref 213, .ref 205], hO nS xs lg_437)) (am_cF_to (by with_unfolding_all rfl)) rfl (by with_unfolding_all rfl) ?_
  show am_Wp _ 167 323 _ _ _ _
  refine wp_step (e := (.dup, 1, 0, 0, 0)) (q := (324, [.ref 205], [.ref 213, .ref 213, .ref 205], hO nS xs lg_437)) (am_cF_to (by with_unfolding_all rfl)) rfl (by with_unfolding_all rfl) ?_
  show am_Wp _ 167 324 _ _ _ _
  refine wp_step (e := (.bipush 43, 2, 0, 0, 0)) (q := (326, [.ref 205], [.int 43, .ref 213, .ref 213, .ref 205], hO nS xs lg_437)) (am_cF_to (by with_unfolding_all rfl)) rfl (by with_unfolding_all rfl) ?_
  show am_Wp _ 167 326 _ _ _ _
  refine wp_step (e := (.bipush 103, 2, 0, 0, 0)) (q := (328, [.ref 205], [.int 103, .int 43, .ref 213, .ref 213, .ref 205], hO nS xs lg_437)) (am_cF_to (by with_unfolding_all rfl)) rfl (by with_unfolding_all rfl) ?_
  show am_Wp _ 167 328 _ _ _ _
  refine wp_step (e := (.iastore, 1, 0, 0, 0)) (q := (329, [.ref 205], [.ref 213, .ref 205], hO nS xs lg_438)) (am_cF_to (by with_unfolding_all rfl)) rfl (by with_unfolding_all rfl) ?_
  show am_Wp _ 167 329 _ _ _ _
  refine wp_step (e := (.dup, 1, 0, 0, 0)) (q := (330, [.ref 205], [.ref 213, .ref 213, .ref 205], hO nS xs lg_438)) (am_cF_to (by with_unfolding_all rfl)) rfl (by with_unfolding_all rfl) ?_
  show am_Wp _ 167 330 _ _ _ _
  refine wp_step (e := (.bipush 44, 2, 0, 0, 0)) (q := (332, [.ref 205], [.int 44, .ref 213, .ref 213, .ref 205], hO nS xs lg_438)) (am_cF_to (by with_unfolding_all rfl)) rfl (by with_unfolding_all rfl) ?_
  show am_Wp _ 167 332 _ _ _ _
  refine wp_step (e := (.bipush 104, 2, 0, 0, 0)) (q := (334, [.ref 205], [.int 104, .int 44, .ref 213, .ref 213, .ref 205], hO nS xs lg_438)) (am_cF_to (by with_unfolding_all rfl)) rfl (by with_unfolding_all rfl) ?_
  show am_Wp _ 167 334 _ _ _ _
  refine wp_step (e := (.iastore, 1, 0, 0, 0)) (q := (335, [.ref 205], [.ref 213, .ref 205], hO nS xs lg_439)) (am_cF_to (by with_unfolding_all rfl)) rfl (by with_unfolding_all rfl) ?_
  show am_Wp _ 167 335 _ _ _ _
  refine wp_step (e := (.dup, 1, 0, 0, 0)) (q := (336, [.ref 205], [.ref 213, .ref 213, .ref 205], hO nS xs lg_439)) (am_cF_to (by with_unfolding_all rfl)) rfl (by with_unfolding_all rfl) ?_
  show am_Wp _ 167 336 _ _ _ _
  refine wp_step (e := (.bipush 45, 2, 0, 0, 0)) (q := (338, [.ref 205], [.int 45, .ref 213, .ref 213, .ref 205], hO nS xs lg_439)) (am_cF_to (by with_unfolding_all rfl)) rfl (by with_unfolding_all rfl) ?_
  show am_Wp _ 167 338 _ _ _ _
  refine wp_step (e := (.bipush 116, 2, 0, 0, 0)) (q := (340, [.ref 205], [.int 116, .int 45, .ref 213, .ref 213, .ref 205], hO nS xs lg_439)) (am_cF_to (by with_unfolding_all rfl)) rfl (by with_unfolding_all rfl) ?_
  show am_Wp _ 167 340 _ _ _ _
  refine wp_step (e := (.iastore, 1, 0, 0, 0)) (q := (341, [.ref 205], [.ref 213, .ref 205], hO nS xs lg_440)) (am_cF_to (by with_unfolding_all rfl)) rfl (by with_unfolding_all rfl) ?_
  show am_Wp _ 167 341 _ _ _ _
  refine wp_step (e := (.dup, 1, 0, 0, 0)) (q := (342, [.ref 205], [.ref 213, .ref 213, .ref 205], hO nS xs lg_440)) (am_cF_to (by with_unfolding_all rfl)) rfl (by with_unfolding_all rfl) ?_
  show am_Wp _ 167 342 _ _ _ _
  refine wp_step (e := (.bipush 46, 2, 0, 0, 0)) (q := (344, [.ref 205], [.int 46, .ref 213, .ref 213, .ref 205], hO nS xs lg_440)) (am_cF_to (by with_unfolding_all rfl)) rfl (by with_unfolding_all rfl) ?_
  show am_Wp _ 167 344 _ _ _ _
  refine wp_step (e := (.bipush 32, 2, 0, 0, 0)) (q := (346, [.ref 205], [.int 32, .int 46, .ref 213, .ref 213, .ref 205], hO nS xs lg_440)) (am_cF_to (by with_unfolding_all rfl)) rfl (by with_unfolding_all rfl) ?_
  show am_Wp _ 167 346 _ _ _ _
  refine wp_step (e := (.iastore, 1, 0, 0, 0)) (q := (347, [.ref 205], [.ref 213, .ref 205], hO nS xs lg_441)) (am_cF_to (by with_unfolding_all rfl)) rfl (by with_unfolding_all rfl) ?_
  show am_Wp _ 167 347 _ _ _ _
  refine wp_step (e := (.dup, 1, 0, 0, 0)) (q := (348, [.ref 205], [.ref 213, .ref 213, .ref 205], hO nS xs lg_441)) (am_cF_to (by with_unfolding_all rfl)) rfl (by with_unfolding_all rfl) ?_
  show am_Wp _ 167 348 _ _ _ _
  refine wp_step (e := (.bipush 47, 2, 0, 0, 0)) (q := (350, [.ref 205], [.int 47, .ref 213, .ref 213, .ref 205], hO nS xs lg_441)) (am_cF_to (by with_unfolding_all rfl)) rfl (by with_unfolding_all rfl) ?_
  show am_Wp _ 167 350 _ _ _ _
  refine wp_step (e := (.bipush 116, 2, 0, 0, 0)) (q := (352, [.ref 205], [.int 116, .int 47, .ref 213, .ref 213, .ref 205], hO nS xs lg_441)) (am_cF_to (by with_unfolding_all rfl)) rfl (by with_unfolding_all rfl) ?_
  show am_Wp _ 167 352 _ _ _ _
  refine wp_step (e := (.iastore, 1, 0, 0, 0)) (q := (353, [.ref 205], [.ref 213, .ref 205], hO nS xs lg_442)) (am_cF_to (by with_unfolding_all rfl)) rfl (by with_unfolding_all rfl) ?_
  show am_Wp _ 167 353 _ _ _ _
  refine wp_step (e := (.dup, 1, 0, 0, 0)) (q := (354, [.ref 205], [.ref 213, .ref 213, .ref 205], hO nS xs lg_442)) (am_cF_to (by with_unfolding_all rfl)) rfl (by with_unfolding_all rfl) ?_
  show am_Wp _ 167 354 _ _ _ _
  refine wp_step (e := (.bipush 48, 2, 0, 0, 0)) (q := (356, [.ref 205], [.int 48, .ref 213, .ref 213, .ref 205], hO nS xs lg_442)) (am_cF_to (by with_unfolding_all rfl)) rfl (by with_unfolding_all rfl) ?_
  show am_Wp _ 167 356 _ _ _ _
  refine wp_step (e := (.bipush 111, 2, 0, 0, 0)) (q := (358, [.ref 205], [.int 111, .int 48, .ref 213, .ref 213, .ref 205], hO nS xs lg_442)) (am_cF_to (by with_unfolding_all rfl)) rfl (by with_unfolding_all rfl) ?_
  show am_Wp _ 167 358 _ _ _ _
  refine wp_step (e := (.iastore, 1, 0, 0, 0)) (q := (359, [.ref 205], [.ref 213, .ref 205], hO nS xs lg_443)) (am_cF_to (by with_unfolding_all rfl)) rfl (by with_unfolding_all rfl) ?_
  show am_Wp _ 167 359 _ _ _ _
  refine wp_step (e := (.dup, 1, 0, 0, 0)) (q := (360, [.ref 205], [.ref 213, .ref 213, .ref 205], hO nS xs lg_443)) (am_cF_to (by with_unfolding_all rfl)) rfl (by with_unfolding_all rfl) ?_
  show am_Wp _ 167 360 _ _ _ _
  refine wp_step (e := (.bipush 49, 2, 0, 0, 0)) (q := (362, [.ref 205], [.int 49, .ref 213, .ref 213, .ref 205], hO nS xs lg_443)) (am_cF_to (by with_unfolding_all rfl)) rfl (by with_unfolding_all rfl) ?_
  show am_Wp _ 167 362 _ _ _ _
  refine wp_step (e := (.bipush 112, 2, 0, 0, 0)) (q := (364, [.ref 205], [.int 112, .int 49, .ref 213, .ref 213, .ref 205], hO nS xs lg_443)) (am_cF_to (by with_unfolding_all rfl)) rfl (by with_unfolding_all rfl) ?_
  show am_Wp _ 167 364 _ _ _ _
  refine wp_step (e := (.iastore, 1, 0, 0, 0)) (q := (365, [.ref 205], [.ref 213, .ref 205], hO nS xs lg_444)) (am_cF_to (by with_unfolding_all rfl)) rfl (by with_unfolding_all rfl) ?_
  show am_Wp _ 167 365 _ _ _ _
  refine wp_step (e := (.dup, 1, 0, 0, 0)) (q := (366, [.ref 205], [.ref 213, .ref 213, .ref 205], hO nS xs lg_444)) (am_cF_to (by with_unfolding_all rfl)) rfl (by with_unfolding_all rfl) ?_
  show am_Wp _ 167 366 _ _ _ _
  refine wp_step (e := (.bipush 50, 2, 0, 0, 0)) (q := (368, [.ref 205], [.int 50, .ref 213, .ref 213, .ref 205], hO nS xs lg_444)) (am_cF_to (by with_unfolding_all rfl)) rfl (by with_unfolding_all rfl) ?_
  show am_Wp _ 167 368 _ _ _ _
  refine wp_step (e := (.bipush 32, 2, 0, 0, 0)) (q := (370, [.ref 205], [.int 32, .int 50, .ref 213, .ref 213, .ref 205], hO nS xs lg_444)) (am_cF_to (by with_unfolding_all rfl)) rfl (by with_unfolding_all rfl) ?_
  show am_Wp _ 167 370 _ _ _ _
  refine wp_step (e := (.iastore, 1, 0, 0, 0)) (q := (371, [.ref 205], [.ref 213, .ref 205], hO nS xs lg_445)) (am_cF_to (by with_unfolding_all rfl)) rfl (by with_unfolding_all rfl) ?_
  show am_Wp _ 167 371 _ _ _ _
  refine wp_step (e := (.dup, 1, 0, 0, 0)) (q := (372, [.ref 205], [.ref 213, .ref 213, .ref 205], hO nS xs lg_445)) (am_cF_to (by with_unfolding_all rfl)) rfl (by with_unfolding_all rfl) ?_
  show am_Wp _ 167 372 _ _ _ _
  refine wp_step (e := (.bipush 51, 2, 0, 0, 0)) (q := (374, [.ref 205], [.int 51, .ref 213, .ref 213, .ref 205], hO nS xs lg_445)) (am_cF_to (by with_unfolding_all rfl)) rfl (by with_unfolding_all rfl) ?_
  show am_Wp _ 167 374 _ _ _ _
  refine wp_step (e := (.bipush 115, 2, 0, 0, 0)) (q := (376, [.ref 205], [.int 115, .int 51, .ref 213, .ref 213, .ref 205], hO nS xs lg_445)) (am_cF_to (by with_unfolding_all rfl)) rfl (by with_unfolding_all rfl) ?_
  show am_Wp _ 167 376 _ _ _ _
  refine wp_step (e := (.iastore, 1, 0, 0, 0)) (q := (377, [.ref 205], [.ref 213, .ref 205], hO nS xs lg_446)) (am_cF_to (by with_unfolding_all rfl)) rfl (by with_unfolding_all rfl) ?_
  show am_Wp _ 167 377 _ _ _ _
  refine wp_step (e := (.dup, 1, 0, 0, 0)) (q := (378, [.ref 205], [.ref 213, .ref 213, .ref 205], hO nS xs lg_446)) (am_cF_to (by with_unfolding_all rfl)) rfl (by with_unfolding_all rfl) ?_
  show am_Wp _ 167 378 _ _ _ _
  refine wp_step (e := (.bipush 52, 2, 0, 0, 0)) (q := (380, [.ref 205], [.int 52, .ref 213, .ref 213, .ref 205], hO nS xs lg_446)) (am_cF_to (by with_unfolding_all rfl)) rfl (by with_unfolding_all rfl) ?_
  show am_Wp _ 167 380 _ _ _ _
  refine wp_step (e := (.bipush 99, 2, 0, 0, 0)) (q := (382, [.ref 205], [.int 99, .int 52, .ref 213, .ref 213, .ref 205], hO nS xs lg_446)) (am_cF_to (by with_unfolding_all rfl)) rfl (by with_unfolding_all rfl) ?_
  show am_Wp _ 167 382 _ _ _ _
  refine wp_step (e := (.iastore, 1, 0, 0, 0)) (q := (383, [.ref 205], [.ref 213, .ref 205], hO nS xs lg_447)) (am_cF_to (by with_unfolding_all rfl)) rfl (by with_unfolding_all rfl) ?_
  show am_Wp _ 167 383 _ _ _ _
  refine wp_step (e := (.dup, 1, 0, 0, 0)) (q := (384, [.ref 205], [.ref 213, .ref 213, .ref 205], hO nS xs lg_447)) (am_cF_to (by with_unfolding_all rfl)) rfl (by with_unfolding_all rfl) ?_
  show am_Wp _ 167 384 _ _ _ _
  refine wp_step (e := (.bipush 53, 2, 0, 0, 0)) (q := (386, [.ref 205], [.int 53, .ref 213, .ref 213, .ref 205], hO nS xs lg_447)) (am_cF_to (by with_unfolding_all rfl)) rfl (by with_unfolding_all rfl) ?_
  show am_Wp _ 167 386 _ _ _ _
  refine wp_step (e := (.bipush 97, 2, 0, 0, 0)) (q := (388, [.ref 205], [.int 97, .int 53, .ref 213, .ref 213, .ref 205], hO nS xs lg_447)) (am_cF_to (by with_unfolding_all rfl)) rfl (by with_unfolding_all rfl) ?_
  show am_Wp _ 167 388 _ _ _ _
  refine wp_step (e := (.iastore, 1, 0, 0, 0)) (q := (389, [.ref 205], [.ref 213, .ref 205], hO nS xs lg_448)) (am_cF_to (by with_unfolding_all rfl)) rfl (by with_unfolding_all rfl) ?_
  show am_Wp _ 167 389 _ _ _ _
  refine wp_step (e := (.dup, 1, 0, 0, 0)) (q := (390, [.ref 205], [.ref 213, .ref 213, .ref 205], hO nS xs lg_448)) (am_cF_to (by with_unfolding_all rfl)) rfl (by with_unfolding_all rfl) ?_
  show am_Wp _ 167 390 _ _ _ _
  refine wp_step (e := (.bipush 54, 2, 0, 0, 0)) (q := (392, [.ref 205], [.int 54, .ref 213, .ref 213, .ref 205], hO nS xs lg_448)) (am_cF_to (by with_unfolding_all rfl)) rfl (by with_unfolding_all rfl) ?_
  show am_Wp _ 167 392 _ _ _ _
  refine wp_step (e := (.bipush 114, 2, 0, 0, 0)) (q := (394, [.ref 205], [.int 114, .int 54, .ref 213, .ref 213, .ref 205], hO nS xs lg_448)) (am_cF_to (by with_unfolding_all rfl)) rfl (by with_unfolding_all rfl) ?_
  show am_Wp _ 167 394 _ _ _ _
  refine wp_step (e := (.iastore, 1, 0, 0, 0)) (q := (395, [.ref 205], [.ref 213, .ref 205], hO nS xs lg_449)) (am_cF_to (by with_unfolding_all rfl)) rfl (by with_unfolding_all rfl) ?_
  show am_Wp _ 167 395 _ _ _ _
  refine wp_step (e := (.dup, 1, 0, 0, 0)) (q := (396, [.ref 205], [.ref 213, .ref 213, .ref 205], hO nS xs lg_449)) (am_cF_to (by with_unfolding_all rfl)) rfl (by with_unfolding_all rfl) ?_
  show am_Wp _ 167 396 _ _ _ _
  refine wp_step (e := (.bipush 55, 2, 0, 0, 0)) (q := (398, [.ref 205], [.int 55, .ref 213, .ref 213, .ref 205], hO nS xs lg_449)) (am_cF_to (by with_unfolding_all rfl)) rfl (by with_unfolding_all rfl) ?_
  show am_Wp _ 167 398 _ _ _ _
  refine wp_step (e := (.bipush 101, 2, 0, 0, 0)) (q := (400, [.ref 205], [.int 101, .int 55, .ref 213, .ref 213, .ref 205], hO nS xs lg_449)) (am_cF_to (by with_unfolding_all rfl)) rfl (by with_unfolding_all rfl) ?_
  show am_Wp _ 167 400 _ _ _ _
  refine wp_step (e := (.iastore, 1, 0, 0, 0)) (q := (401, [.ref 205], [.ref 213, .ref 205], hO nS xs lg_450)) (am_cF_to (by with_unfolding_all rfl)) rfl (by with_unfolding_all rfl) ?_
  show am_Wp _ 167 401 _ _ _ _
  refine wp_step (e := (.dup, 1, 0, 0, 0)) (q := (402, [.ref 205], [.ref 213, .ref 213, .ref 205], hO nS xs lg_450)) (am_cF_to (by with_unfolding_all rfl)) rfl (by with_unfolding_all rfl) ?_
  show am_Wp _ 167 402 _ _ _ _
  refine wp_step (e := (.bipush 56, 2, 0, 0, 0)) (q := (404, [.ref 205], [.int 56, .ref 213, .ref 213, .ref 205], hO nS xs lg_450)) (am_cF_to (by with_unfolding_all rfl)) rfl (by with_unfolding_all rfl) ?_
  show am_Wp _ 167 404 _ _ _ _
  refine wp_step (e := (.bipush 100, 2, 0, 0, 0)) (q := (406, [.ref 205], [.int 100, .int 56, .ref 213, .ref 213, .ref 205], hO nS xs lg_450)) (am_cF_to (by with_unfolding_all rfl)) rfl (by with_unfolding_all rfl) ?_
  show am_Wp _ 167 406 _ _ _ _
  refine wp_step (e := (.iastore, 1, 0, 0, 0)) (q := (407, [.ref 205], [.ref 213, .ref 205], hO nS xs lg_451)) (am_cF_to (by with_unfolding_all rfl)) rfl (by with_unfolding_all rfl) ?_
  show am_Wp _ 167 407 _ _ _ _
  refine wp_step (e := (.dup, 1, 0, 0, 0)) (q := (408, [.ref 205], [.ref 213, .ref 213, .ref 205], hO nS xs lg_451)) (am_cF_to (by with_unfolding_all rfl)) rfl (by with_unfolding_all rfl) ?_
  show am_Wp _ 167 408 _ _ _ _
  refine wp_step (e := (.bipush 57, 2, 0, 0, 0)) (q := (410, [.ref 205], [.int 57, .ref 213, .ref 213, .ref 205], hO nS xs lg_451)) (am_cF_to (by with_unfolding_all rfl)) rfl (by with_unfolding_all rfl) ?_
  show am_Wp _ 167 410 _ _ _ _
  refine wp_step (e := (.bipush 32, 2, 0, 0, 0)) (q := (412, [.ref 205], [.int 32, .int 57, .ref 213, .ref 213, .ref 205], hO nS xs lg_451)) (am_cF_to (by with_unfolding_all rfl)) rfl (by with_unfolding_all rfl) ?_
  show am_Wp _ 167 412 _ _ _ _
  refine wp_step (e := (.iastore, 1, 0, 0, 0)) (q := (413, [.ref 205], [.ref 213, .ref 205], hO nS xs lg_452)) (am_cF_to (by with_unfolding_all rfl)) rfl (by with_unfolding_all rfl) ?_
  show am_Wp _ 167 413 _ _ _ _
  refine wp_step (e := (.dup, 1, 0, 0, 0)) (q := (414, [.ref 205], [.ref 213, .ref 213, .ref 205], hO nS xs lg_452)) (am_cF_to (by with_unfolding_all rfl)) rfl (by with_unfolding_all rfl) ?_
  show am_Wp _ 167 414 _ _ _ _
  refine wp_step (e := (.bipush 58, 2, 0, 0, 0)) (q := (416, [.ref 205], [.int 58, .ref 213, .ref 213, .ref 205], hO nS xs lg_452)) (am_cF_to (by with_unfolding_all rfl)) rfl (by with_unfolding_all rfl) ?_
  show am_Wp _ 167 416 _ _ _ _
  refine wp_step (e := (.bipush 119, 2, 0, 0, 0)) (q := (418, [.ref 205], [.int 119, .int 58, .ref 213, .ref 213, .ref 205], hO nS xs lg_452)) (am_cF_to (by with_unfolding_all rfl)) rfl (by with_unfolding_all rfl) ?_
  show am_Wp _ 167 418 _ _ _ _
  refine wp_step (e := (.iastore, 1, 0, 0, 0)) (q := (419, [.ref 205], [.ref 213, .ref 205], hO nS xs lg_453)) (am_cF_to (by with_unfolding_all rfl)) rfl (by with_unfolding_all rfl) ?_
  show am_Wp _ 167 419 _ _ _ _
  refine wp_step (e := (.dup, 1, 0, 0, 0)) (q := (420, [.ref 205], [.ref 213, .ref 213, .ref 205], hO nS xs lg_453)) (am_cF_to (by with_unfolding_all rfl)) rfl (by with_unfolding_all rfl) ?_
  show am_Wp _ 167 420 _ _ _ _
  refine wp_step (e := (.bipush 59, 2, 0, 0, 0)) (q := (422, [.ref 205], [.int 59, .ref 213, .ref 213, .ref 205], hO nS xs lg_453)) (am_cF_to (by with_unfolding_all rfl)) rfl (by with_unfolding_all rfl) ?_
  show am_Wp _ 167 422 _ _ _ _
  refine wp_step (e := (.bipush 105, 2, 0, 0, 0)) (q := (424, [.ref 205], [.int 105, .int 59, .ref 213, .ref 213, .ref 205], hO nS xs lg_453)) (am_cF_to (by with_unfolding_all rfl)) rfl (by with_unfolding_all rfl) ?_
  show am_Wp _ 167 424 _ _ _ _
  refine wp_step (e := (.iastore, 1, 0, 0, 0)) (q := (425, [.ref 205], [.ref 213, .ref 205], hO nS xs lg_454)) (am_cF_to (by with_unfolding_all rfl)) rfl (by with_unfolding_all rfl) ?_
  show am_Wp _ 167 425 _ _ _ _
  refine wp_step (e := (.dup, 1, 0, 0, 0)) (q := (426, [.ref 205], [.ref 213, .ref 213, .ref 205], hO nS xs lg_454)) (am_cF_to (by with_unfolding_all rfl)) rfl (by with_unfolding_all rfl) ?_
  show am_Wp _ 167 426 _ _ _ _
  refine wp_step (e := (.bipush 60, 2, 0, 0, 0)) (q := (428, [.ref 205], [.int 60, .ref 213, .ref 213, .ref 205], hO nS xs lg_454)) (am_cF_to (by with_unfolding_all rfl)) rfl (by with_unfolding_all rfl) ?_
  show am_Wp _ 167 428 _ _ _ _
  refine wp_step (e := (.bipush 110, 2, 0, 0, 0)) (q := (430, [.ref 205], [.int 110, .int 60, .ref 213, .ref 213, .ref 205], hO nS xs lg_454)) (am_cF_to (by with_unfolding_all rfl)) rfl (by with_unfolding_all rfl) ?_
  show am_Wp _ 167 430 _ _ _ _
  refine wp_step (e := (.iastore, 1, 0, 0, 0)) (q := (431, [.ref 205], [.ref 213, .ref 205], hO nS xs lg_455)) (am_cF_to (by with_unfolding_all rfl)) rfl (by with_unfolding_all rfl) ?_
  show am_Wp _ 167 431 _ _ _ _
  refine wp_step (e := (.dup, 1, 0, 0, 0)) (q := (432, [.ref 205], [.ref 213, .ref 213, .ref 205], hO nS xs lg_455)) (am_cF_to (by with_unfolding_all rfl)) rfl (by with_unfolding_all rfl) ?_
  show am_Wp _ 167 432 _ _ _ _
  refine wp_step (e := (.bipush 61, 2, 0, 0, 0)) (q := (434, [.ref 205], [.int 61, .ref 213, .ref 213, .ref 205], hO nS xs lg_455)) (am_cF_to (by with_unfolding_all rfl)) rfl (by with_unfolding_all rfl) ?_
  show am_Wp _ 167 434 _ _ _ _
  refine wp_step (e := (.bipush 100, 2, 0, 0, 0)) (q := (436, [.ref 205], [.int 100, .int 61, .ref 213, .ref 213, .ref 205], hO nS xs lg_455)) (am_cF_to (by with_unfolding_all rfl)) rfl (by with_unfolding_all rfl) ?_
  show am_Wp _ 167 436 _ _ _ _
  refine wp_step (e := (.iastore, 1, 0, 0, 0)) (q := (437, [.ref 205], [.ref 213, .ref 205], hO nS xs lg_456)) (am_cF_to (by with_unfolding_all rfl)) rfl (by with_unfolding_all rfl) ?_
  show am_Wp _ 167 437 _ _ _ _
  refine wp_step (e := (.dup, 1, 0, 0, 0)) (q := (438, [.ref 205], [.ref 213, .ref 213, .ref 205], hO nS xs lg_456)) (am_cF_to (by with_unfolding_all rfl)) rfl (by with_unfolding_all rfl) ?_
  show am_Wp _ 167 438 _ _ _ _
  refine wp_step (e := (.bipush 62, 2, 0, 0, 0)) (q := (440, [.ref 205], [.int 62, .ref 213, .ref 213, .ref 205], hO nS xs lg_456)) (am_cF_to (by with_unfolding_all rfl)) rfl (by with_unfolding_all rfl) ?_
  show am_Wp _ 167 440 _ _ _ _
  refine wp_step (e := (.bipush 32, 2, 0, 0, 0)) (q := (442, [.ref 205], [.int 32, .int 62, .ref 213, .ref 213, .ref 205], hO nS xs lg_456)) (am_cF_to (by with_unfolding_all rfl)) rfl (by with_unfolding_all rfl) ?_
  show am_Wp _ 167 442 _ _ _ _
  refine wp_step (e := (.iastore, 1, 0, 0, 0)) (q := (443, [.ref 205], [.ref 213, .ref 205], hO nS xs lg_457)) (am_cF_to (by with_unfolding_all rfl)) rfl (by with_unfolding_all rfl) ?_
  show am_Wp _ 167 443 _ _ _ _
  refine wp_step (e := (.dup, 1, 0, 0, 0)) (q := (444, [.ref 205], [.ref 213, .ref 213, .ref 205], hO nS xs lg_457)) (am_cF_to (by with_unfolding_all rfl)) rfl (by with_unfolding_all rfl) ?_
  show am_Wp _ 167 444 _ _ _ _
  refine wp_step (e := (.bipush 63, 2, 0, 0, 0)) (q := (446, [.ref 205], [.int 63, .ref 213, .ref 213, .ref 205], hO nS xs lg_457)) (am_cF_to (by with_unfolding_all rfl)) rfl (by with_unfolding_all rfl) ?_
  show am_Wp _ 167 446 _ _ _ _
  refine wp_step (e := (.bipush 109, 2, 0, 0, 0)) (q := (448, [.ref 205], [.int 109, .int 63, .ref 213, .ref 213, .ref 205], hO nS xs lg_457)) (am_cF_to (by with_unfolding_all rfl)) rfl (by with_unfolding_all rfl) ?_
  show am_Wp _ 167 448 _ _ _ _
  refine wp_step (e := (.iastore, 1, 0, 0, 0)) (q := (449, [.ref 205], [.ref 213, .ref 205], hO nS xs lg_458)) (am_cF_to (by with_unfolding_all rfl)) rfl (by with_unfolding_all rfl) ?_
  show am_Wp _ 167 449 _ _ _ _
  refine wp_step (e := (.dup, 1, 0, 0, 0)) (q := (450, [.ref 205], [.ref 213, .ref 213, .ref 205], hO nS xs lg_458)) (am_cF_to (by with_unfolding_all rfl)) rfl (by with_unfolding_all rfl) ?_
  show am_Wp _ 167 450 _ _ _ _
  refine wp_step (e := (.bipush 64, 2, 0, 0, 0)) (q := (452, [.ref 205], [.int 64, .ref 213, .ref 213, .ref 205], hO nS xs lg_458)) (am_cF_to (by with_unfolding_all rfl)) rfl (by with_unfolding_all rfl) ?_
  show am_Wp _ 167 452 _ _ _ _
  refine wp_step (e := (.bipush 105, 2, 0, 0, 0)) (q := (454, [.ref 205], [.int 105, .int 64, .ref 213, .ref 213, .ref 205], hO nS xs lg_458)) (am_cF_to (by with_unfolding_all rfl)) rfl (by with_unfolding_all rfl) ?_
  show am_Wp _ 167 454 _ _ _ _
  refine wp_step (e := (.iastore, 1, 0, 0, 0)) (q := (455, [.ref 205], [.ref 213, .ref 205], hO nS xs lg_459)) (am_cF_to (by with_unfolding_all rfl)) rfl (by with_unfolding_all rfl) ?_
  show am_Wp _ 167 455 _ _ _ _
  refine wp_step (e := (.dup, 1, 0, 0, 0)) (q := (456, [.ref 205], [.ref 213, .ref 213, .ref 205], hO nS xs lg_459)) (am_cF_to (by with_unfolding_all rfl)) rfl (by with_unfolding_all rfl) ?_
  show am_Wp _ 167 456 _ _ _ _
  refine wp_step (e := (.bipush 65, 2, 0, 0, 0)) (q := (458, [.ref 205], [.int 65, .ref 213, .ref 213, .ref 205], hO nS xs lg_459)) (am_cF_to (by with_unfolding_all rfl)) rfl (by with_unfolding_all rfl) ?_
  show am_Wp _ 167 458 _ _ _ _
  refine wp_step (e := (.bipush 110, 2, 0, 0, 0)) (q := (460, [.ref 205], [.int 110, .int 65, .ref 213, .ref 213, .ref 205], hO nS xs lg_459)) (am_cF_to (by with_unfolding_all rfl)) rfl (by with_unfolding_all rfl) ?_
  show am_Wp _ 167 460 _ _ _ _
  refine wp_step (e := (.iastore, 1, 0, 0, 0)) (q := (461, [.ref 205], [.ref 213, .ref 205], hO nS xs lg_460)) (am_cF_to (by with_unfolding_all rfl)) rfl (by with_unfolding_all rfl) ?_
  show am_Wp _ 167 461 _ _ _ _
  refine wp_step (e := (.dup, 1, 0, 0, 0)) (q := (462, [.ref 205], [.ref 213, .ref 213, .ref 205], hO nS xs lg_460)) (am_cF_to (by with_unfolding_all rfl)) rfl (by with_unfolding_all rfl) ?_
  show am_Wp _ 167 462 _ _ _ _
  refine wp_step (e := (.bipush 66, 2, 0, 0, 0)) (q := (464, [.ref 205], [.int 66, .ref 213, .ref 213, .ref 205], hO nS xs lg_460)) (am_cF_to (by with_unfolding_all rfl)) rfl (by with_unfolding_all rfl) ?_
  show am_Wp _ 167 464 _ _ _ _
  refine wp_step (e := (.bipush 117, 2, 0, 0, 0)) (q := (466, [.ref 205], [.int 117, .int 66, .ref 213, .ref 213, .ref 205], hO nS xs lg_460)) (am_cF_to (by with_unfolding_all rfl)) rfl (by with_unfolding_all rfl) ?_
  show am_Wp _ 167 466 _ _ _ _
  refine wp_step (e := (.iastore, 1, 0, 0, 0)) (q := (467, [.ref 205], [.ref 213, .ref 205], hO nS xs lg_461)) (am_cF_to (by with_unfolding_all rfl)) rfl (by with_unfolding_all rfl) ?_
  show am_Wp _ 167 467 _ _ _ _
  refine wp_step (e := (.dup, 1, 0, 0, 0)) (q := (468, [.ref 205], [.ref 213, .ref 213, .ref 205], hO nS xs lg_461)) (am_cF_to (by with_unfolding_all rfl)) rfl (by with_unfolding_all rfl) ?_
  show am_Wp _ 167 468 _ _ _ _
  refine wp_step (e := (.bipush 67, 2, 0, 0, 0)) (q := (470, [.ref 205], [.int 67, .ref 213, .ref 213, .ref 205], hO nS xs lg_461)) (am_cF_to (by with_unfolding_all rfl)) rfl (by with_unfolding_all rfl) ?_
  show am_Wp _ 167 470 _ _ _ _
  refine wp_step (e := (.bipush 116, 2, 0, 0, 0)) (q := (472, [.ref 205], [.int 116, .int 67, .ref 213, .ref 213, .ref 205], hO nS xs lg_461)) (am_cF_to (by with_unfolding_all rfl)) rfl (by with_unfolding_all rfl) ?_
  show am_Wp _ 167 472 _ _ _ _
  refine wp_step (e := (.iastore, 1, 0, 0, 0)) (q := (473, [.ref 205], [.ref 213, .ref 205], hO nS xs lg_462)) (am_cF_to (by with_unfolding_all rfl)) rfl (by with_unfolding_all rfl) ?_
  show am_Wp _ 167 473 _ _ _ _
  refine wp_step (e := (.dup, 1, 0, 0, 0)) (q := (474, [.ref 205], [.ref 213, .ref 213, .ref 205], hO nS xs lg_462)) (am_cF_to (by with_unfolding_all rfl)) rfl (by with_unfolding_all rfl) ?_
  show am_Wp _ 167 474 _ _ _ _
  refine wp_step (e := (.bipush 68, 2, 0, 0, 0)) (q := (476, [.ref 205], [.int 68, .ref 213, .ref 213, .ref 205], hO nS xs lg_462)) (am_cF_to (by with_unfolding_all rfl)) rfl (by with_unfolding_all rfl) ?_
  show am_Wp _ 167 476 _ _ _ _
  refine wp_step (e := (.bipush 101, 2, 0, 0, 0)) (q := (478, [.ref 205], [.int 101, .int 68, .ref 213, .ref 213, .ref 205], hO nS xs lg_462)) (am_cF_to (by with_unfolding_all rfl)) rfl (by with_unfolding_all rfl) ?_
  show am_Wp _ 167 478 _ _ _ _
  refine wp_step (e := (.iastore, 1, 0, 0, 0)) (q := (479, [.ref 205], [.ref 213, .ref 205], hO nS xs lg_463)) (am_cF_to (by with_unfolding_all rfl)) rfl (by with_unfolding_all rfl) ?_
  show am_Wp _ 167 479 _ _ _ _
  refine wp_step (e := (.dup, 1, 0, 0, 0)) (q := (480, [.ref 205], [.ref 213, .ref 213, .ref 205], hO nS xs lg_463)) (am_cF_to (by with_unfolding_all rfl)) rfl (by with_unfolding_all rfl) ?_
  show am_Wp _ 167 480 _ _ _ _
  refine wp_step (e := (.bipush 69, 2, 0, 0, 0)) (q := (482, [.ref 205], [.int 69, .ref 213, .ref 213, .ref 205], hO nS xs lg_463)) (am_cF_to (by with_unfolding_all rfl)) rfl (by with_unfolding_all rfl) ?_
  show am_Wp _ 167 482 _ _ _ _
  refine wp_step (e := (.bipush 32, 2, 0, 0, 0)) (q := (484, [.ref 205], [.int 32, .int 69, .ref 213, .ref 213, .ref 205], hO nS xs lg_463)) (am_cF_to (by with_unfolding_all rfl)) rfl (by with_unfolding_all rfl) ?_
  show am_Wp _ 167 484 _ _ _ _
  refine wp_step (e := (.iastore, 1, 0, 0, 0)) (q := (485, [.ref 205], [.ref 213, .ref 205], hO nS xs lg_464)) (am_cF_to (by with_unfolding_all rfl)) rfl (by with_unfolding_all rfl) ?_
  show am_Wp _ 167 485 _ _ _ _
  refine wp_step (e := (.dup, 1, 0, 0, 0)) (q := (486, [.ref 205], [.ref 213, .ref 213, .ref 205], hO nS xs lg_464)) (am_cF_to (by with_unfolding_all rfl)) rfl (by with_unfolding_all rfl) ?_
  show am_Wp _ 167 486 _ _ _ _
  refine wp_step (e := (.bipush 70, 2, 0, 0, 0)) (q := (488, [.ref 205], [.int 70, .ref 213, .ref 213, .ref 205], hO nS xs lg_464)) (am_cF_to (by with_unfolding_all rfl)) rfl (by with_unfolding_all rfl) ?_
  show am_Wp _ 167 488 _ _ _ _
  refine wp_step (e := (.bipush 98, 2, 0, 0, 0)) (q := (490, [.ref 205], [.int 98, .int 70, .ref 213, .ref 213, .ref 205], hO nS xs lg_464)) (am_cF_to (by with_unfolding_all rfl)) rfl (by with_unfolding_all rfl) ?_
  show am_Wp _ 167 490 _ _ _ _
  refine wp_step (e := (.iastore, 1, 0, 0, 0)) (q := (491, [.ref 205], [.ref 213, .ref 205], hO nS xs lg_465)) (am_cF_to (by with_unfolding_all rfl)) rfl (by with_unfolding_all rfl) ?_
  show am_Wp _ 167 491 _ _ _ _
  refine wp_step (e := (.dup, 1, 0, 0, 0)) (q := (492, [.ref 205], [.ref 213, .ref 213, .ref 205], hO nS xs lg_465)) (am_cF_to (by with_unfolding_all rfl)) rfl (by with_unfolding_all rfl) ?_
  show am_Wp _ 167 492 _ _ _ _
  refine wp_step (e := (.bipush 71, 2, 0, 0, 0)) (q := (494, [.ref 205], [.int 71, .ref 213, .ref 213, .ref 205], hO nS xs lg_465)) (am_cF_to (by with_unfolding_all rfl)) rfl (by with_unfolding_all rfl) ?_
  show am_Wp _ 167 494 _ _ _ _
  refine wp_step (e := (.bipush 97, 2, 0, 0, 0)) (q := (496, [.ref 205], [.int 97, .int 71, .ref 213, .ref 213, .ref 205], hO nS xs lg_465)) (am_cF_to (by with_unfolding_all rfl)) rfl (by with_unfolding_all rfl) ?_
  show am_Wp _ 167 496 _ _ _ _
  refine wp_step (e := (.iastore, 1, 0, 0, 0)) (q := (497, [.ref 205], [.ref 213, .ref 205], hO nS xs lg_466)) (am_cF_to (by with_unfolding_all rfl)) rfl (by with_unfolding_all rfl) ?_
  show am_Wp _ 167 497 _ _ _ _
  refine wp_step (e := (.dup, 1, 0, 0, 0)) (q := (498, [.ref 205], [.ref 213, .ref 213, .ref 205], hO nS xs lg_466)) (am_cF_to (by with_unfolding_all rfl)) rfl (by with_unfolding_all rfl) ?_
  show am_Wp _ 167 498 _ _ _ _
  refine wp_step (e := (.bipush 72, 2, 0, 0, 0)) (q := (500, [.ref 205], [.int 72, .ref 213, .ref 213, .ref 205], hO nS xs lg_466)) (am_cF_to (by with_unfolding_all rfl)) rfl (by with_unfolding_all rfl) ?_
  show am_Wp _ 167 500 _ _ _ _
  refine wp_step (e := (.bipush 115, 2, 0, 0, 0)) (q := (502, [.ref 205], [.int 115, .int 72, .ref 213, .ref 213, .ref 205], hO nS xs lg_466)) (am_cF_to (by with_unfolding_all rfl)) rfl (by with_unfolding_all rfl) ?_
  show am_Wp _ 167 502 _ _ _ _
  refine wp_step (e := (.iastore, 1, 0, 0, 0)) (q := (503, [.ref 205], [.ref 213, .ref 205], hO nS xs lg_467)) (am_cF_to (by with_unfolding_all rfl)) rfl (by with_unfolding_all rfl) ?_
  show am_Wp _ 167 503 _ _ _ _
  refine wp_step (e := (.dup, 1, 0, 0, 0)) (q := (504, [.ref 205], [.ref 213, .ref 213, .ref 205], hO nS xs lg_467)) (am_cF_to (by with_unfolding_all rfl)) rfl (by with_unfolding_all rfl) ?_
  show am_Wp _ 167 504 _ _ _ _
  refine wp_step (e := (.bipush 73, 2, 0, 0, 0)) (q := (506, [.ref 205], [.int 73, .ref 213, .ref 213, .ref 205], hO nS xs lg_467)) (am_cF_to (by with_unfolding_all rfl)) rfl (by with_unfolding_all rfl) ?_
  show am_Wp _ 167 506 _ _ _ _
  refine wp_step (e := (.bipush 101, 2, 0, 0, 0)) (q := (508, [.ref 205], [.int 101, .int 73, .ref 213, .ref 213, .ref 205], hO nS xs lg_467)) (am_cF_to (by with_unfolding_all rfl)) rfl (by with_unfolding_all rfl) ?_
  show am_Wp _ 167 508 _ _ _ _
  refine wp_step (e := (.iastore, 1, 0, 0, 0)) (q := (509, [.ref 205], [.ref 213, .ref 205], hO nS xs lg_468)) (am_cF_to (by with_unfolding_all rfl)) rfl (by with_unfolding_all rfl) ?_
  show am_Wp _ 167 509 _ _ _ _
  refine wp_step (e := (.dup, 1, 0, 0, 0)) (q := (510, [.ref 205], [.ref 213, .ref 213, .ref 205], hO nS xs lg_468)) (am_cF_to (by with_unfolding_all rfl)) rfl (by with_unfolding_all rfl) ?_
  show am_Wp _ 167 510 _ _ _ _
  refine wp_step (e := (.bipush 74, 2, 0, 0, 0)) (q := (512, [.ref 205], [.int 74, .ref 213, .ref 213, .ref 205], hO nS xs lg_468)) (am_cF_to (by with_unfolding_all rfl)) rfl (by with_unfolding_all rfl) ?_
  show am_Wp _ 167 512 _ _ _ _
  refine wp_step (e := (.bipush 32, 2, 0, 0, 0)) (q := (514, [.ref 205], [.int 32, .int 74, .ref 213, .ref 213, .ref 205], hO nS xs lg_468)) (am_cF_to (by with_unfolding_all rfl)) rfl (by with_unfolding_all rfl) ?_
  show am_Wp _ 167 514 _ _ _ _
  refine wp_step (e := (.iastore, 1, 0, 0, 0)) (q := (515, [.ref 205], [.ref 213, .ref 205], hO nS xs lg_469)) (am_cF_to (by with_unfolding_all rfl)) rfl (by with_unfolding_all rfl) ?_
  show am_Wp _ 167 515 _ _ _ _
  refine wp_step (e := (.dup, 1, 0, 0, 0)) (q := (516, [.ref 205], [.ref 213, .ref 213, .ref 205], hO nS xs lg_469)) (am_cF_to (by with_unfolding_all rfl)) rfl (by with_unfolding_all rfl) ?_
  show am_Wp _ 167 516 _ _ _ _
  refine wp_step (e := (.bipush 75, 2, 0, 0, 0)) (q := (518, [.ref 205], [.int 75, .ref 213, .ref 213, .ref 205], hO nS xs lg_469)) (am_cF_to (by with_unfolding_all rfl)) rfl (by with_unfolding_all rfl) ?_
  show am_Wp _ 167 518 _ _ _ _
  refine wp_step (e := (.bipush 108, 2, 0, 0, 0)) (q := (520, [.ref 205], [.int 108, .int 75, .ref 213, .ref 213, .ref 205], hO nS xs lg_469)) (am_cF_to (by with_unfolding_all rfl)) rfl (by with_unfolding_all rfl) ?_
  show am_Wp _ 167 520 _ _ _ _
  refine wp_step (e := (.iastore, 1, 0, 0, 0)) (q := (521, [.ref 205], [.ref 213, .ref 205], hO nS xs lg_470)) (am_cF_to (by with_unfolding_all rfl)) rfl (by with_unfolding_all rfl) ?_
  show am_Wp _ 167 521 _ _ _ _
  refine wp_step (e := (.dup, 1, 0, 0, 0)) (q := (522, [.ref 205], [.ref 213, .ref 213, .ref 205], hO nS xs lg_470)) (am_cF_to (by with_unfolding_all rfl)) rfl (by with_unfolding_all rfl) ?_
  show am_Wp _ 167 522 _ _ _ _
  refine wp_step (e := (.bipush 76, 2, 0, 0, 0)) (q := (524, [.ref 205], [.int 76, .ref 213, .ref 213, .ref 205], hO nS xs lg_470)) (am_cF_to (by with_unfolding_all rfl)) rfl (by with_unfolding_all rfl) ?_
  show am_Wp _ 167 524 _ _ _ _
  refine wp_step (e := (.bipush 111, 2, 0, 0, 0)) (q := (526, [.ref 205], [.int 111, .int 76, .ref 213, .ref 213, .ref 205], hO nS xs lg_470)) (am_cF_to (by with_unfolding_all rfl)) rfl (by with_unfolding_all rfl) ?_
  show am_Wp _ 167 526 _ _ _ _
  refine wp_step (e := (.iastore, 1, 0, 0, 0)) (q := (527, [.ref 205], [.ref 213, .ref 205], hO nS xs lg_471)) (am_cF_to (by with_unfolding_all rfl)) rfl (by with_unfolding_all rfl) ?_
  show am_Wp _ 167 527 _ _ _ _
  refine wp_step (e := (.dup, 1, 0, 0, 0)) (q := (528, [.ref 205], [.ref 213, .ref 213, .ref 205], hO nS xs lg_471)) (am_cF_to (by with_unfolding_all rfl)) rfl (by with_unfolding_all rfl) ?_
  show am_Wp _ 167 528 _ _ _ _
  refine wp_step (e := (.bipush 77, 2, 0, 0, 0)) (q := (530, [.ref 205], [.int 77, .ref 213, .ref 213, .ref 205], hO nS xs lg_471)) (am_cF_to (by with_unfolding_all rfl)) rfl (by with_unfolding_all rfl) ?_
  show am_Wp _ 167 530 _ _ _ _
  refine wp_step (e := (.bipush 115, 2, 0, 0, 0)) (q := (532, [.ref 205], [.int 115, .int 77, .ref 213, .ref 213, .ref 205], hO nS xs lg_471)) (am_cF_to (by with_unfolding_all rfl)) rfl (by with_unfolding_all rfl) ?_
  show am_Wp _ 167 532 _ _ _ _
  refine wp_step (e := (.iastore, 1, 0, 0, 0)) (q := (533, [.ref 205], [.ref 213, .ref 205], hO nS xs lg_472)) (am_cF_to (by with_unfolding_all rfl)) rfl (by with_unfolding_all rfl) ?_
  show am_Wp _ 167 533 _ _ _ _
  refine wp_step (e := (.dup, 1, 0, 0, 0)) (q := (534, [.ref 205], [.ref 213, .ref 213, .ref 205], hO nS xs lg_472)) (am_cF_to (by with_unfolding_all rfl)) rfl (by with_unfolding_all rfl) ?_
  show am_Wp _ 167 534 _ _ _ _
  refine wp_step (e := (.bipush 78, 2, 0, 0, 0)) (q := (536, [.ref 205], [.int 78, .ref 213, .ref 213, .ref 205], hO nS xs lg_472)) (am_cF_to (by with_unfolding_all rfl)) rfl (by with_unfolding_all rfl) ?_
  show am_Wp _ 167 536 _ _ _ _
  refine wp_step (e := (.bipush 116, 2, 0, 0, 0)) (q := (538, [.ref 205], [.int 116, .int 78, .ref 213, .ref 213, .ref 205], hO nS xs lg_472)) (am_cF_to (by with_unfolding_all rfl)) rfl (by with_unfolding_all rfl) ?_
  show am_Wp _ 167 538 _ _ _ _
  refine wp_step (e := (.iastore, 1, 0, 0, 0)) (q := (539, [.ref 205], [.ref 213, .ref 205], hO nS xs lg_473)) (am_cF_to (by with_unfolding_all rfl)) rfl (by with_unfolding_all rfl) ?_
  show am_Wp _ 167 539 _ _ _ _
  refine wp_step (e := (.dup, 1, 0, 0, 0)) (q := (540, [.ref 205], [.ref 213, .ref 213, .ref 205], hO nS xs lg_473)) (am_cF_to (by with_unfolding_all rfl)) rfl (by with_unfolding_all rfl) ?_
  show am_Wp _ 167 540 _ _ _ _
  refine wp_step (e := (.bipush 79, 2, 0, 0, 0)) (q := (542, [.ref 205], [.int 79, .ref 213, .ref 213, .ref 205], hO nS xs lg_473)) (am_cF_to (by with_unfolding_all rfl)) rfl (by with_unfolding_all rfl) ?_
  show am_Wp _ 167 542 _ _ _ _
  refine wp_step (e := (.bipush 32, 2, 0, 0, 0)) (q := (544, [.ref 205], [.int 32, .int 79, .ref 213, .ref 213, .ref 205], hO nS xs lg_473)) (am_cF_to (by with_unfolding_all rfl)) rfl (by with_unfolding_all rfl) ?_
  show am_Wp _ 167 544 _ _ _ _
  refine wp_step (e := (.iastore, 1, 0, 0, 0)) (q := (545, [.ref 205], [.ref 213, .ref 205], hO nS xs lg_474)) (am_cF_to (by with_unfolding_all rfl)) rfl (by with_unfolding_all rfl) ?_
  show am_Wp _ 167 545 _ _ _ _
  refine wp_step (e := (.dup, 1, 0, 0, 0)) (q := (546, [.ref 205], [.ref 213, .ref 213, .ref 205], hO nS xs lg_474)) (am_cF_to (by with_unfolding_all rfl)) rfl (by with_unfolding_all rfl) ?_
  show am_Wp _ 167 546 _ _ _ _
  refine wp_step (e := (.bipush 80, 2, 0, 0, 0)) (q := (548, [.ref 205], [.int 80, .ref 213, .ref 213, .ref 205], hO nS xs lg_474)) (am_cF_to (by with_unfolding_all rfl)) rfl (by with_unfolding_all rfl) ?_
  show am_Wp _ 167 548 _ _ _ _
  refine wp_step (e := (.bipush 100, 2, 0, 0, 0)) (q := (550, [.ref 205], [.int 100, .int 80, .ref 213, .ref 213, .ref 205], hO nS xs lg_474)) (am_cF_to (by with_unfolding_all rfl)) rfl (by with_unfolding_all rfl) ?_
  show am_Wp _ 167 550 _ _ _ _
  refine wp_step (e := (.iastore, 1, 0, 0, 0)) (q := (551, [.ref 205], [.ref 213, .ref 205], hO nS xs lg_475)) (am_cF_to (by with_unfolding_all rfl)) rfl (by with_unfolding_all rfl) ?_
  show am_Wp _ 167 551 _ _ _ _
  refine wp_step (e := (.dup, 1, 0, 0, 0)) (q := (552, [.ref 205], [.ref 213, .ref 213, .ref 205], hO nS xs lg_475)) (am_cF_to (by with_unfolding_all rfl)) rfl (by with_unfolding_all rfl) ?_
  show am_Wp _ 167 552 _ _ _ _
  refine wp_step (e := (.bipush 81, 2, 0, 0, 0)) (q := (554, [.ref 205], [.int 81, .ref 213, .ref 213, .ref 205], hO nS xs lg_475)) (am_cF_to (by with_unfolding_all rfl)) rfl (by with_unfolding_all rfl) ?_
  show am_Wp _ 167 554 _ _ _ _
  refine wp_step (e := (.bipush 97, 2, 0, 0, 0)) (q := (556, [.ref 205], [.int 97, .int 81, .ref 213, .ref 213, .ref 205], hO nS xs lg_475)) (am_cF_to (by with_unfolding_all rfl)) rfl (by with_unfolding_all rfl) ?_
  show am_Wp _ 167 556 _ _ _ _
  refine wp_step (e := (.iastore, 1, 0, 0, 0)) (q := (557, [.ref 205], [.ref 213, .ref 205], hO nS xs lg_476)) (am_cF_to (by with_unfolding_all rfl)) rfl (by with_unfolding_all rfl) ?_
  show am_Wp _ 167 557 _ _ _ _
  refine wp_step (e := (.dup, 1, 0, 0, 0)) (q := (558, [.ref 205], [.ref 213, .ref 213, .ref 205], hO nS xs lg_476)) (am_cF_to (by with_unfolding_all rfl)) rfl (by with_unfolding_all rfl) ?_
  show am_Wp _ 167 558 _ _ _ _
  refine wp_step (e := (.bipush 82, 2, 0, 0, 0)) (q := (560, [.ref 205], [.int 82, .ref 213, .ref 213, .ref 205], hO nS xs lg_476)) (am_cF_to (by with_unfolding_all rfl)) rfl (by with_unfolding_all rfl) ?_
  show am_Wp _ 167 560 _ _ _ _
  refine wp_step (e := (.bipush 121, 2, 0, 0, 0)) (q := (562, [.ref 205], [.int 121, .int 82, .ref 213, .ref 213, .ref 205], hO nS xs lg_476)) (am_cF_to (by with_unfolding_all rfl)) rfl (by with_unfolding_all rfl) ?_
  show am_Wp _ 167 562 _ _ _ _
  refine wp_step (e := (.iastore, 1, 0, 0, 0)) (q := (563, [.ref 205], [.ref 213, .ref 205], hO nS xs lg_477)) (am_cF_to (by with_unfolding_all rfl)) rfl (by with_unfolding_all rfl) ?_
  show am_Wp _ 167 563 _ _ _ _
  refine wp_step (e := (.dup, 1, 0, 0, 0)) (q := (564, [.ref 205], [.ref 213, .ref 213, .ref 205], hO nS xs lg_477)) (am_cF_to (by with_unfolding_all rfl)) rfl (by with_unfolding_all rfl) ?_
  show am_Wp _ 167 564 _ _ _ _
  refine wp_step (e := (.bipush 83, 2, 0, 0, 0)) (q := (566, [.ref 205], [.int 83, .ref 213, .ref 213, .ref 205], hO nS xs lg_477)) (am_cF_to (by with_unfolding_all rfl)) rfl (by with_unfolding_all rfl) ?_
  show am_Wp _ 167 566 _ _ _ _
  refine wp_step (e := (.bipush 32, 2, 0, 0, 0)) (q := (568, [.ref 205], [.int 32, .int 83, .ref 213, .ref 213, .ref 205], hO nS xs lg_477)) (am_cF_to (by with_unfolding_all rfl)) rfl (by with_unfolding_all rfl) ?_
  show am_Wp _ 167 568 _ _ _ _
  refine wp_step (e := (.iastore, 1, 0, 0, 0)) (q := (569, [.ref 205], [.ref 213, .ref 205], hO nS xs lg_478)) (am_cF_to (by with_unfolding_all rfl)) rfl (by with_unfolding_all rfl) ?_
  show am_Wp _ 167 569 _ _ _ _
  refine wp_step (e := (.dup, 1, 0, 0, 0)) (q := (570, [.ref 205], [.ref 213, .ref 213, .ref 205], hO nS xs lg_478)) (am_cF_to (by with_unfolding_all rfl)) rfl (by with_unfolding_all rfl) ?_
  show am_Wp _ 167 570 _ _ _ _
  refine wp_step (e := (.bipush 84, 2, 0, 0, 0)) (q := (572, [.ref 205], [.int 84, .ref 213, .ref 213, .ref 205], hO nS xs lg_478)) (am_cF_to (by with_unfolding_all rfl)) rfl (by with_unfolding_all rfl) ?_
  show am_Wp _ 167 572 _ _ _ _
  refine wp_step (e := (.bipush 111, 2, 0, 0, 0)) (q := (574, [.ref 205], [.int 111, .int 84, .ref 213, .ref 213, .ref 205], hO nS xs lg_478)) (am_cF_to (by with_unfolding_all rfl)) rfl (by with_unfolding_all rfl) ?_
  show am_Wp _ 167 574 _ _ _ _
  refine wp_step (e := (.iastore, 1, 0, 0, 0)) (q := (575, [.ref 205], [.ref 213, .ref 205], hO nS xs lg_479)) (am_cF_to (by with_unfolding_all rfl)) rfl (by with_unfolding_all rfl) ?_
  show am_Wp _ 167 575 _ _ _ _
  refine wp_step (e := (.dup, 1, 0, 0, 0)) (q := (576, [.ref 205], [.ref 213, .ref 213, .ref 205], hO nS xs lg_479)) (am_cF_to (by with_unfolding_all rfl)) rfl (by with_unfolding_all rfl) ?_
  show am_Wp _ 167 576 _ _ _ _
  refine wp_step (e := (.bipush 85, 2, 0, 0, 0)) (q := (578, [.ref 205], [.int 85, .ref 213, .ref 213, .ref 205], hO nS xs lg_479)) (am_cF_to (by with_unfolding_all rfl)) rfl (by with_unfolding_all rfl) ?_
  show am_Wp _ 167 578 _ _ _ _
  refine wp_step (e := (.bipush 110, 2, 0, 0, 0)) (q := (580, [.ref 205], [.int 110, .int 85, .ref 213, .ref 213, .ref 205], hO nS xs lg_479)) (am_cF_to (by with_unfolding_all rfl)) rfl (by with_unfolding_all rfl) ?_
  show am_Wp _ 167 580 _ _ _ _
  refine wp_step (e := (.iastore, 1, 0, 0, 0)) (q := (581, [.ref 205], [.ref 213, .ref 205], hO nS xs lg_480)) (am_cF_to (by with_unfolding_all rfl)) rfl (by with_unfolding_all rfl) ?_
  show am_Wp _ 167 581 _ _ _ _
  refine wp_step (e := (.dup, 1, 0, 0, 0)) (q := (582, [.ref 205], [.ref 213, .ref 213, .ref 205], hO nS xs lg_480)) (am_cF_to (by with_unfolding_all rfl)) rfl (by with_unfolding_all rfl) ?_
  show am_Wp _ 167 582 _ _ _ _
  refine wp_step (e := (.bipush 86, 2, 0, 0, 0)) (q := (584, [.ref 205], [.int 86, .ref 213, .ref 213, .ref 205], hO nS xs lg_480)) (am_cF_to (by with_unfolding_all rfl)) rfl (by with_unfolding_all rfl) ?_
  show am_Wp _ 167 584 _ _ _ _
  refine wp_step (e := (.bipush 32, 2, 0, 0, 0)) (q := (586, [.ref 205], [.int 32, .int 86, .ref 213, .ref 213, .ref 205], hO nS xs lg_480)) (am_cF_to (by with_unfolding_all rfl)) rfl (by with_unfolding_all rfl) ?_
  show am_Wp _ 167 586 _ _ _ _
  refine wp_step (e := (.iastore, 1, 0, 0, 0)) (q := (587, [.ref 205], [.ref 213, .ref 205], hO nS xs lg_481)) (am_cF_to (by with_unfolding_all rfl)) rfl (by with_unfolding_all rfl) ?_
  show am_Wp _ 167 587 _ _ _ _
  refine wp_step (e := (.dup, 1, 0, 0, 0)) (q := (588, [.ref 205], [.ref 213, .ref 213, .ref 205], hO nS xs lg_481)) (am_cF_to (by with_unfolding_all rfl)) rfl (by with_unfolding_all rfl) ?_
  show am_Wp _ 167 588 _ _ _ _
  refine wp_step (e := (.bipush 87, 2, 0, 0, 0)) (q := (590, [.ref 205], [.int 87, .ref 213, .ref 213, .ref 205], hO nS xs lg_481)) (am_cF_to (by with_unfolding_all rfl)) rfl (by with_unfolding_all rfl) ?_
  show am_Wp _ 167 590 _ _ _ _
  refine wp_step (e := (.bipush 98, 2, 0, 0, 0)) (q := (592, [.ref 205], [.int 98, .int 87, .ref 213, .ref 213, .ref 205], hO nS xs lg_481)) (am_cF_to (by with_unfolding_all rfl)) rfl (by with_unfolding_all rfl) ?_
  show am_Wp _ 167 592 _ _ _ _
  refine wp_step (e := (.iastore, 1, 0, 0, 0)) (q := (593, [.ref 205], [.ref 213, .ref 205], hO nS xs lg_482)) (am_cF_to (by with_unfolding_all rfl)) rfl (by with_unfolding_all rfl) ?_
  show am_Wp _ 167 593 _ _ _ _
  refine wp_step (e := (.dup, 1, 0, 0, 0)) (q := (594, [.ref 205], [.ref 213, .ref 213, .ref 205], hO nS xs lg_482)) (am_cF_to (by with_unfolding_all rfl)) rfl (by with_unfolding_all rfl) ?_
  show am_Wp _ 167 594 _ _ _ _
  refine wp_step (e := (.bipush 88, 2, 0, 0, 0)) (q := (596, [.ref 205], [.int 88, .ref 213, .ref 213, .ref 205], hO nS xs lg_482)) (am_cF_to (by with_unfolding_all rfl)) rfl (by with_unfolding_all rfl) ?_
  show am_Wp _ 167 596 _ _ _ _
  refine wp_step (e := (.bipush 111, 2, 0, 0, 0)) (q := (598, [.ref 205], [.int 111, .int 88, .ref 213, .ref 213, .ref 205], hO nS xs lg_482)) (am_cF_to (by with_unfolding_all rfl)) rfl (by with_unfolding_all rfl) ?_
  show am_Wp _ 167 598 _ _ _ _
  refine wp_step (e := (.iastore, 1, 0, 0, 0)) (q := (599, [.ref 205], [.ref 213, .ref 205], hO nS xs lg_483)) (am_cF_to (by with_unfolding_all rfl)) rfl (by with_unfolding_all rfl) ?_
  show am_Wp _ 167 599 _ _ _ _
  refine wp_step (e := (.dup, 1, 0, 0, 0)) (q := (600, [.ref 205], [.ref 213, .ref 213, .ref 205], hO nS xs lg_483)) (am_cF_to (by with_unfolding_all rfl)) rfl (by with_unfolding_all rfl) ?_
  show am_Wp _ 167 600 _ _ _ _
  refine wp_step (e := (.bipush 89, 2, 0, 0, 0)) (q := (602, [.ref 205], [.int 89, .ref 213, .ref 213, .ref 205], hO nS xs lg_483)) (am_cF_to (by with_unfolding_all rfl)) rfl (by with_unfolding_all rfl) ?_
  show am_Wp _ 167 602 _ _ _ _
  refine wp_step (e := (.bipush 121, 2, 0, 0, 0)) (q := (604, [.ref 205], [.int 121, .int 89, .ref 213, .ref 213, .ref 205], hO nS xs lg_483)) (am_cF_to (by with_unfolding_all rfl)) rfl (by with_unfolding_all rfl) ?_
  show am_Wp _ 167 604 _ _ _ _
  refine wp_step (e := (.iastore, 1, 0, 0, 0)) (q := (605, [.ref 205], [.ref 213, .ref 205], hO nS xs lg_484)) (am_cF_to (by with_unfolding_all rfl)) rfl (by with_unfolding_all rfl) ?_
  show am_Wp _ 167 605 _ _ _ _
  refine wp_step (e := (.dup, 1, 0, 0, 0)) (q := (606, [.ref 205], [.ref 213, .ref 213, .ref 205], hO nS xs lg_484)) (am_cF_to (by with_unfolding_all rfl)) rfl (by with_unfolding_all rfl) ?_
  show am_Wp _ 167 606 _ _ _ _
  refine wp_step (e := (.bipush 90, 2, 0, 0, 0)) (q := (608, [.ref 205], [.int 90, .ref 213, .ref 213, .ref 205], hO nS xs lg_484)) (am_cF_to (by with_unfolding_all rfl)) rfl (by with_unfolding_all rfl) ?_
  show am_Wp _ 167 608 _ _ _ _
  refine wp_step (e := (.bipush 32, 2, 0, 0, 0)) (q := (610, [.ref 205], [.int 32, .int 90, .ref 213, .ref 213, .ref 205], hO nS xs lg_484)) (am_cF_to (by with_unfolding_all rfl)) rfl (by with_unfolding_all rfl) ?_
  show am_Wp _ 167 610 _ _ _ _
  refine wp_step (e := (.iastore, 1, 0, 0, 0)) (q := (611, [.ref 205], [.ref 213, .ref 205], hO nS xs lg_485)) (am_cF_to (by with_unfolding_all rfl)) rfl (by with_unfolding_all rfl) ?_
  show am_Wp _ 167 611 _ _ _ _
  refine wp_step (e := (.dup, 1, 0, 0, 0)) (q := (612, [.ref 205], [.ref 213, .ref 213, .ref 205], hO nS xs lg_485)) (am_cF_to (by with_unfolding_all rfl)) rfl (by with_unfolding_all rfl) ?_
  show am_Wp _ 167 612 _ _ _ _
  refine wp_step (e := (.bipush 91, 2, 0, 0, 0)) (q := (614, [.ref 205], [.int 91, .ref 213, .ref 213, .ref 205], hO nS xs lg_485)) (am_cF_to (by with_unfolding_all rfl)) rfl (by with_unfolding_all rfl) ?_
  show am_Wp _ 167 614 _ _ _ _
  refine wp_step (e := (.bipush 99, 2, 0, 0, 0)) (q := (616, [.ref 205], [.int 99, .int 91, .ref 213, .ref 213, .ref 205], hO nS xs lg_485)) (am_cF_to (by with_unfolding_all rfl)) rfl (by with_unfolding_all rfl) ?_
  show am_Wp _ 167 616 _ _ _ _
  refine wp_step (e := (.iastore, 1, 0, 0, 0)) (q := (617, [.ref 205], [.ref 213, .ref 205], hO nS xs lg_486)) (am_cF_to (by with_unfolding_all rfl)) rfl (by with_unfolding_all rfl) ?_
  show am_Wp _ 167 617 _ _ _ _
  refine wp_step (e := (.dup, 1, 0, 0, 0)) (q := (618, [.ref 205], [.ref 213, .ref 213, .ref 205], hO nS xs lg_486)) (am_cF_to (by with_unfolding_all rfl)) rfl (by with_unfolding_all rfl) ?_
  show am_Wp _ 167 618 _ _ _ _
  refine wp_step (e := (.bipush 92, 2, 0, 0, 0)) (q := (620, [.ref 205], [.int 92, .ref 213, .ref 213, .ref 205], hO nS xs lg_486)) (am_cF_to (by with_unfolding_all rfl)) rfl (by with_unfolding_all rfl) ?_
  show am_Wp _ 167 620 _ _ _ _
  refine wp_step (e := (.bipush 97, 2, 0, 0, 0)) (q := (622, [.ref 205], [.int 97, .int 92, .ref 213, .ref 213, .ref 205], hO nS xs lg_486)) (am_cF_to (by with_unfolding_all rfl)) rfl (by with_unfolding_all rfl) ?_
  show am_Wp _ 167 622 _ _ _ _
  refine wp_step (e := (.iastore, 1, 0, 0, 0)) (q := (623, [.ref 205], [.ref 213, .ref 205], hO nS xs lg_487)) (am_cF_to (by with_unfolding_all rfl)) rfl (by with_unfolding_all rfl) ?_
  show am_Wp _ 167 623 _ _ _ _
  refine wp_step (e := (.dup, 1, 0, 0, 0)) (q := (624, [.ref 205], [.ref 213, .ref 213, .ref 205], hO nS xs lg_487)) (am_cF_to (by with_unfolding_all rfl)) rfl (by with_unfolding_all rfl) ?_
  show am_Wp _ 167 624 _ _ _ _
  refine wp_step (e := (.bipush 93, 2, 0, 0, 0)) (q := (626, [.ref 205], [.int 93, .ref 213, .ref 213, .ref 205], hO nS xs lg_487)) (am_cF_to (by with_unfolding_all rfl)) rfl (by with_unfolding_all rfl) ?_
  show am_Wp _ 167 626 _ _ _ _
  refine wp_step (e := (.bipush 108, 2, 0, 0, 0)) (q := (628, [.ref 205], [.int 108, .int 93, .ref 213, .ref 213, .ref 205], hO nS xs lg_487)) (am_cF_to (by with_unfolding_all rfl)) rfl (by with_unfolding_all rfl) ?_
  show am_Wp _ 167 628 _ _ _ _
  refine wp_step (e := (.iastore, 1, 0, 0, 0)) (q := (629, [.ref 205], [.ref 213, .ref 205], hO nS xs lg_488)) (am_cF_to (by with_unfolding_all rfl)) rfl (by with_unfolding_all rfl) ?_
  show am_Wp _ 167 629 _ _ _ _
  refine wp_step (e := (.dup, 1, 0, 0, 0)) (q := (630, [.ref 205], [.ref 213, .ref 213, .ref 205], hO nS xs lg_488)) (am_cF_to (by with_unfolding_all rfl)) rfl (by with_unfolding_all rfl) ?_
  show am_Wp _ 167 630 _ _ _ _
  refine wp_step (e := (.bipush 94, 2, 0, 0, 0)) (q := (632, [.ref 205], [.int 94, .ref 213, .ref 213, .ref 205], hO nS xs lg_488)) (am_cF_to (by with_unfolding_all rfl)) rfl (by with_unfolding_all rfl) ?_
  show am_Wp _ 167 632 _ _ _ _
  refine wp_step (e := (.bipush 109, 2, 0, 0, 0)) (q := (634, [.ref 205], [.int 109, .int 94, .ref 213, .ref 213, .ref 205], hO nS xs lg_488)) (am_cF_to (by with_unfolding_all rfl)) rfl (by with_unfolding_all rfl) ?_
  show am_Wp _ 167 634 _ _ _ _
  refine wp_step (e := (.iastore, 1, 0, 0, 0)) (q := (635, [.ref 205], [.ref 213, .ref 205], hO nS xs lg_489)) (am_cF_to (by with_unfolding_all rfl)) rfl (by with_unfolding_all rfl) ?_
  show am_Wp _ 167 635 _ _ _ _
  refine wp_step (e := (.dup, 1, 0, 0, 0)) (q := (636, [.ref 205], [.ref 213, .ref 213, .ref 205], hO nS xs lg_489)) (am_cF_to (by with_unfolding_all rfl)) rfl (by with_unfolding_all rfl) ?_
  show am_Wp _ 167 636 _ _ _ _
  refine wp_step (e := (.bipush 95, 2, 0, 0, 0)) (q := (638, [.ref 205], [.int 95, .ref 213, .ref 213, .ref 205], hO nS xs lg_489)) (am_cF_to (by with_unfolding_all rfl)) rfl (by with_unfolding_all rfl) ?_
  show am_Wp _ 167 638 _ _ _ _
  refine wp_step (e := (.bipush 32, 2, 0, 0, 0)) (q := (640, [.ref 205], [.int 32, .int 95, .ref 213, .ref 213, .ref 205], hO nS xs lg_489)) (am_cF_to (by with_unfolding_all rfl)) rfl (by with_unfolding_all rfl) ?_
  show am_Wp _ 167 640 _ _ _ _
  refine wp_step (e := (.iastore, 1, 0, 0, 0)) (q := (641, [.ref 205], [.ref 213, .ref 205], hO nS xs lg_490)) (am_cF_to (by with_unfolding_all rfl)) rfl (by with_unfolding_all rfl) ?_
  show am_Wp _ 167 641 _ _ _ _
  refine wp_step (e := (.dup, 1, 0, 0, 0)) (q := (642, [.ref 205], [.ref 213, .ref 213, .ref 205], hO nS xs lg_490)) (am_cF_to (by with_unfolding_all rfl)) rfl (by with_unfolding_all rfl) ?_
  show am_Wp _ 167 642 _ _ _ _
  refine wp_step (e := (.bipush 96, 2, 0, 0, 0)) (q := (644, [.ref 205], [.int 96, .ref 213, .ref 213, .ref 205], hO nS xs lg_490)) (am_cF_to (by with_unfolding_all rfl)) rfl (by with_unfolding_all rfl) ?_
  show am_Wp _ 167 644 _ _ _ _
  refine wp_step (e := (.bipush 115, 2, 0, 0, 0)) (q := (646, [.ref 205], [.int 115, .int 96, .ref 213, .ref 213, .ref 205], hO nS xs lg_490)) (am_cF_to (by with_unfolding_all rfl)) rfl (by with_unfolding_all rfl) ?_
  show am_Wp _ 167 646 _ _ _ _
  refine wp_step (e := (.iastore, 1, 0, 0, 0)) (q := (647, [.ref 205], [.ref 213, .ref 205], hO nS xs lg_491)) (am_cF_to (by with_unfolding_all rfl)) rfl (by with_unfolding_all rfl) ?_
  show am_Wp _ 167 647 _ _ _ _
  refine wp_step (e := (.dup, 1, 0, 0, 0)) (q := (648, [.ref 205], [.ref 213, .ref 213, .ref 205], hO nS xs lg_491)) (am_cF_to (by with_unfolding_all rfl)) rfl (by with_unfolding_all rfl) ?_
  show am_Wp _ 167 648 _ _ _ _
  refine wp_step (e := (.bipush 97, 2, 0, 0, 0)) (q := (650, [.ref 205], [.int 97, .ref 213, .ref 213, .ref 205], hO nS xs lg_491)) (am_cF_to (by with_unfolding_all rfl)) rfl (by with_unfolding_all rfl) ?_
  show am_Wp _ 167 650 _ _ _ _
  refine wp_step (e := (.bipush 101, 2, 0, 0, 0)) (q := (652, [.ref 205], [.int 101, .int 97, .ref 213, .ref 213, .ref 205], hO nS xs lg_491)) (am_cF_to (by with_unfolding_all rfl)) rfl (by with_unfolding_all rfl) ?_
  show am_Wp _ 167 652 _ _ _ _
  refine wp_step (e := (.iastore, 1, 0, 0, 0)) (q := (653, [.ref 205], [.ref 213, .ref 205], hO nS xs lg_492)) (am_cF_to (by with_unfolding_all rfl)) rfl (by with_unfolding_all rfl) ?_
  show am_Wp _ 167 653 _ _ _ _
  refine wp_step (e := (.dup, 1, 0, 0, 0)) (q := (654, [.ref 205], [.ref 213, .ref 213, .ref 205], hO nS xs lg_492)) (am_cF_to (by with_unfolding_all rfl)) rfl (by with_unfolding_all rfl) ?_
  show am_Wp _ 167 654 _ _ _ _
  refine wp_step (e := (.bipush 98, 2, 0, 0, 0)) (q := (656, [.ref 205], [.int 98, .ref 213, .ref 213, .ref 205], hO nS xs lg_492)) (am_cF_to (by with_unfolding_all rfl)) rfl (by with_unfolding_all rfl) ?_
  show am_Wp _ 167 656 _ _ _ _
  refine wp_step (e := (.bipush 101, 2, 0, 0, 0)) (q := (658, [.ref 205], [.int 101, .int 98, .ref 213, .ref 213, .ref 205], hO nS xs lg_492)) (am_cF_to (by with_unfolding_all rfl)) rfl (by with_unfolding_all rfl) ?_
  show am_Wp _ 167 658 _ _ _ _
  refine wp_step (e := (.iastore, 1, 0, 0, 0)) (q := (659, [.ref 205], [.ref 213, .ref 205], hO nS xs lg_493)) (am_cF_to (by with_unfolding_all rfl)) rfl (by with_unfolding_all rfl) ?_
  show am_Wp _ 167 659 _ _ _ _
  refine wp_step (e := (.dup, 1, 0, 0, 0)) (q := (660, [.ref 205], [.ref 213, .ref 213, .ref 205], hO nS xs lg_493)) (am_cF_to (by with_unfolding_all rfl)) rfl (by with_unfolding_all rfl) ?_
  show am_Wp _ 167 660 _ _ _ _
  refine wp_step (e := (.bipush 99, 2, 0, 0, 0)) (q := (662, [.ref 205], [.int 99, .ref 213, .ref 213, .ref 205], hO nS xs lg_493)) (am_cF_to (by with_unfolding_all rfl)) rfl (by with_unfolding_all rfl) ?_
  show am_Wp _ 167 662 _ _ _ _
  refine wp_step (e := (.bipush 107, 2, 0, 0, 0)) (q := (664, [.ref 205], [.int 107, .int 99, .ref 213, .ref 213, .ref 205], hO nS xs lg_493)) (am_cF_to (by with_unfolding_all rfl)) rfl (by with_unfolding_all rfl) ?_
  show am_Wp _ 167 664 _ _ _ _
  refine wp_step (e := (.iastore, 1, 0, 0, 0)) (q := (665, [.ref 205], [.ref 213, .ref 205], hO nS xs lg_494)) (am_cF_to (by with_unfolding_all rfl)) rfl (by with_unfolding_all rfl) ?_
  show am_Wp _ 167 665 _ _ _ _
  refine wp_step (e := (.dup, 1, 0, 0, 0)) (q := (666, [.ref 205], [.ref 213, .ref 213, .ref 205], hO nS xs lg_494)) (am_cF_to (by with_unfolding_all rfl)) rfl (by with_unfolding_all rfl) ?_
  show am_Wp _ 167 666 _ _ _ _
  refine wp_step (e := (.bipush 100, 2, 0, 0, 0)) (q := (668, [.ref 205], [.int 100, .ref 213, .ref 213, .ref 205], hO nS xs lg_494)) (am_cF_to (by with_unfolding_all rfl)) rfl (by with_unfolding_all rfl) ?_
  show am_Wp _ 167 668 _ _ _ _
  refine wp_step (e := (.bipush 32, 2, 0, 0, 0)) (q := (670, [.ref 205], [.int 32, .int 100, .ref 213, .ref 213, .ref 205], hO nS xs lg_494)) (am_cF_to (by with_unfolding_all rfl)) rfl (by with_unfolding_all rfl) ?_
  show am_Wp _ 167 670 _ _ _ _
  refine wp_step (e := (.iastore, 1, 0, 0, 0)) (q := (671, [.ref 205], [.ref 213, .ref 205], hO nS xs lg_495)) (am_cF_to (by with_unfolding_all rfl)) rfl (by with_unfolding_all rfl) ?_
  show am_Wp _ 167 671 _ _ _ _
  refine wp_step (e := (.dup, 1, 0, 0, 0)) (q := (672, [.ref 205], [.ref 213, .ref 213, .ref 205], hO nS xs lg_495)) (am_cF_to (by with_unfolding_all rfl)) rfl (by with_unfolding_all rfl) ?_
  show am_Wp _ 167 672 _ _ _ _
  refine wp_step (e := (.bipush 101, 2, 0, 0, 0)) (q := (674, [.ref 205], [.int 101, .ref 213, .ref 213, .ref 205], hO nS xs lg_495)) (am_cF_to (by with_unfolding_all rfl)) rfl (by with_unfolding_all rfl) ?_
  show am_Wp _ 167 674 _ _ _ _
  refine wp_step (e := (.bipush 116, 2, 0, 0, 0)) (q := (676, [.ref 205], [.int 116, .int 101, .ref 213, .ref 213, .ref 205], hO nS xs lg_495)) (am_cF_to (by with_unfolding_all rfl)) rfl (by with_unfolding_all rfl) ?_
  show am_Wp _ 167 676 _ _ _ _
  refine wp_step (e := (.iastore, 1, 0, 0, 0)) (q := (677, [.ref 205], [.ref 213, .ref 205], hO nS xs lg_496)) (am_cF_to (by with_unfolding_all rfl)) rfl (by with_unfolding_all rfl) ?_
  show am_Wp _ 167 677 _ _ _ _
  refine wp_step (e := (.dup, 1, 0, 0, 0)) (q := (678, [.ref 205], [.ref 213, .ref 213, .ref 205], hO nS xs lg_496)) (am_cF_to (by with_unfolding_all rfl)) rfl (by with_unfolding_all rfl) ?_
  show am_Wp _ 167 678 _ _ _ _
  refine wp_step (e := (.bipush 102, 2, 0, 0, 0)) (q := (680, [.ref 205], [.int 102, .ref 213, .ref 213, .ref 205], hO nS xs lg_496)) (am_cF_to (by with_unfolding_all rfl)) rfl (by with_unfolding_all rfl) ?_
  show am_Wp _ 167 680 _ _ _ _
  refine wp_step (e := (.bipush 114, 2, 0, 0, 0)) (q := (682, [.ref 205], [.int 114, .int 102, .ref 213, .ref 213, .ref 205], hO nS xs lg_496)) (am_cF_to (by with_unfolding_all rfl)) rfl (by with_unfolding_all rfl) ?_
  show am_Wp _ 167 682 _ _ _ _
  refine wp_step (e := (.iastore, 1, 0, 0, 0)) (q := (683, [.ref 205], [.ref 213, .ref 205], hO nS xs lg_497)) (am_cF_to (by with_unfolding_all rfl)) rfl (by with_unfolding_all rfl) ?_
  show am_Wp _ 167 683 _ _ _ _
  refine wp_step (e := (.dup, 1, 0, 0, 0)) (q := (684, [.ref 205], [.ref 213, .ref 213, .ref 205], hO nS xs lg_497)) (am_cF_to (by with_unfolding_all rfl)) rfl (by with_unfolding_all rfl) ?_
  show am_Wp _ 167 684 _ _ _ _
  refine wp_step (e := (.bipush 103, 2, 0, 0, 0)) (q := (686, [.ref 205], [.int 103, .ref 213, .ref 213, .ref 205], hO nS xs lg_497)) (am_cF_to (by with_unfolding_all rfl)) rfl (by with_unfolding_all rfl) ?_
  show am_Wp _ 167 686 _ _ _ _
  refine wp_step (e := (.bipush 97, 2, 0, 0, 0)) (q := (688, [.ref 205], [.int 97, .int 103, .ref 213, .ref 213, .ref 205], hO nS xs lg_497)) (am_cF_to (by with_unfolding_all rfl)) rfl (by with_unfolding_all rfl) ?_
  show am_Wp _ 167 688 _ _ _ _
  refine wp_step (e := (.iastore, 1, 0, 0, 0)) (q := (689, [.ref 205], [.ref 213, .ref 205], hO nS xs lg_498)) (am_cF_to (by with_unfolding_all rfl)) rfl (by with_unfolding_all rfl) ?_
  show am_Wp _ 167 689 _ _ _ _
  refine wp_step (e := (.dup, 1, 0, 0, 0)) (q := (690, [.ref 205], [.ref 213, .ref 213, .ref 205], hO nS xs lg_498)) (am_cF_to (by with_unfolding_all rfl)) rfl (by with_unfolding_all rfl) ?_
  show am_Wp _ 167 690 _ _ _ _
  refine wp_step (e := (.bipush 104, 2, 0, 0, 0)) (q := (692, [.ref 205], [.int 104, .ref 213, .ref 213, .ref 205], hO nS xs lg_498)) (am_cF_to (by with_unfolding_all rfl)) rfl (by with_unfolding_all rfl) ?_
  show am_Wp _ 167 692 _ _ _ _
  refine wp_step (e := (.bipush 100, 2, 0, 0, 0)) (q := (694, [.ref 205], [.int 100, .int 104, .ref 213, .ref 213, .ref 205], hO nS xs lg_498)) (am_cF_to (by with_unfolding_all rfl)) rfl (by with_unfolding_all rfl) ?_
  show am_Wp _ 167 694 _ _ _ _
  refine wp_step (e := (.iastore, 1, 0, 0, 0)) (q := (695, [.ref 205], [.ref 213, .ref 205], hO nS xs lg_499)) (am_cF_to (by with_unfolding_all rfl)) rfl (by with_unfolding_all rfl) ?_
  show am_Wp _ 167 695 _ _ _ _
  refine wp_step (e := (.dup, 1, 0, 0, 0)) (q := (696, [.ref 205], [.ref 213, .ref 213, .ref 205], hO nS xs lg_499)) (am_cF_to (by with_unfolding_all rfl)) rfl (by with_unfolding_all rfl) ?_
  show am_Wp _ 167 696 _ _ _ _
  refine wp_step (e := (.bipush 105, 2, 0, 0, 0)) (q := (698, [.ref 205], [.int 105, .ref 213, .ref 213, .ref 205], hO nS xs lg_499)) (am_cF_to (by with_unfolding_all rfl)) rfl (by with_unfolding_all rfl) ?_
  show am_Wp _ 167 698 _ _ _ _
  refine wp_step (e := (.bipush 101, 2, 0, 0, 0)) (q := (700, [.ref 205], [.int 101, .int 105, .ref 213, .ref 213, .ref 205], hO nS xs lg_499)) (am_cF_to (by with_unfolding_all rfl)) rfl (by with_unfolding_all rfl) ?_
  show am_Wp _ 167 700 _ _ _ _
  refine wp_step (e := (.iastore, 1, 0, 0, 0)) (q := (701, [.ref 205], [.ref 213, .ref 205], hO nS xs lg_500)) (am_cF_to (by with_unfolding_all rfl)) rfl (by with_unfolding_all rfl) ?_
  show am_Wp _ 167 701 _ _ _ _
  refine wp_step (e := (.dup, 1, 0, 0, 0)) (q := (702, [.ref 205], [.ref 213, .ref 213, .ref 205], hO nS xs lg_500)) (am_cF_to (by with_unfolding_all rfl)) rfl (by with_unfolding_all rfl) ?_
  show am_Wp _ 167 702 _ _ _ _
  refine wp_step (e := (.bipush 106, 2, 0, 0, 0)) (q := (704, [.ref 205], [.int 106, .ref 213, .ref 213, .ref 205], hO nS xs lg_500)) (am_cF_to (by with_unfolding_all rfl)) rfl (by with_unfolding_all rfl) ?_
  show am_Wp _ 167 704 _ _ _ _
  refine wp_step (e := (.bipush 114, 2, 0, 0, 0)) (q := (706, [.ref 205], [.int 114, .int 106, .ref 213, .ref 213, .ref 205], hO nS xs lg_500)) (am_cF_to (by with_unfolding_all rfl)) rfl (by with_unfolding_all rfl) ?_
  show am_Wp _ 167 706 _ _ _ _
  refine wp_step (e := (.iastore, 1, 0, 0, 0)) (q := (707, [.ref 205], [.ref 213, .ref 205], hO nS xs lg_501)) (am_cF_to (by with_unfolding_all rfl)) rfl (by with_unfolding_all rfl) ?_
  show am_Wp _ 167 707 _ _ _ _
  refine wp_step (e := (.dup, 1, 0, 0, 0)) (q := (708, [.ref 205], [.ref 213, .ref 213, .ref 205], hO nS xs lg_501)) (am_cF_to (by with_unfolding_all rfl)) rfl (by with_unfolding_all rfl) ?_
  show am_Wp _ 167 708 _ _ _ _
  refine wp_step (e := (.bipush 107, 2, 0, 0, 0)) (q := (710, [.ref 205], [.int 107, .ref 213, .ref 213, .ref 205], hO nS xs lg_501)) (am_cF_to (by with_unfolding_all rfl)) rfl (by with_unfolding_all rfl) ?_
  show am_Wp _ 167 710 _ _ _ _
  refine wp_step (e := (.bipush 32, 2, 0, 0, 0)) (q := (712, [.ref 205], [.int 32, .int 107, .ref 213, .ref 213, .ref 205], hO nS xs lg_501)) (am_cF_to (by with_unfolding_all rfl)) rfl (by with_unfolding_all rfl) ?_
  show am_Wp _ 167 712 _ _ _ _
  refine wp_step (e := (.iastore, 1, 0, 0, 0)) (q := (713, [.ref 205], [.ref 213, .ref 205], hO nS xs lg_502)) (am_cF_to (by with_unfolding_all rfl)) rfl (by with_unfolding_all rfl) ?_
  show am_Wp _ 167 713 _ _ _ _
  refine wp_step (e := (.dup, 1, 0, 0, 0)) (q := (714, [.ref 205], [.ref 213, .ref 213, .ref 205], hO nS xs lg_502)) (am_cF_to (by with_unfolding_all rfl)) rfl (by with_unfolding_all rfl) ?_
  show am_Wp _ 167 714 _ _ _ _
  refine wp_step (e := (.bipush 108, 2, 0, 0, 0)) (q := (716, [.ref 205], [.int 108, .ref 213, .ref 213, .ref 205], hO nS xs lg_502)) (am_cF_to (by with_unfolding_all rfl)) rfl (by with_unfolding_all rfl) ?_
  show am_Wp _ 167 716 _ _ _ _
  refine wp_step (e := (.bipush 98, 2, 0, 0, 0)) (q := (718, [.ref 205], [.int 98, .int 108, .ref 213, .ref 213, .ref 205], hO nS xs lg_502)) (am_cF_to (by with_unfolding_all rfl)) rfl (by with_unfolding_all rfl) ?_
  show am_Wp _ 167 718 _ _ _ _
  refine wp_step (e := (.iastore, 1, 0, 0, 0)) (q := (719, [.ref 205], [.ref 213, .ref 205], hO nS xs lg_503)) (am_cF_to (by with_unfolding_all rfl)) rfl (by with_unfolding_all rfl) ?_
  show am_Wp _ 167 719 _ _ _ _
  refine wp_step (e := (.dup, 1, 0, 0, 0)) (q := (720, [.ref 205], [.ref 213, .ref 213, .ref 205], hO nS xs lg_503)) (am_cF_to (by with_unfolding_all rfl)) rfl (by with_unfolding_all rfl) ?_
  show am_Wp _ 167 720 _ _ _ _
  refine wp_step (e := (.bipush 109, 2, 0, 0, 0)) (q := (722, [.ref 205], [.int 109, .ref 213, .ref 213, .ref 205], hO nS xs lg_503)) (am_cF_to (by with_unfolding_all rfl)) rfl (by with_unfolding_all rfl) ?_
  show am_Wp _ 167 722 _ _ _ _
  refine wp_step (e := (.bipush 117, 2, 0, 0, 0)) (q := (724, [.ref 205], [.int 117, .int 109, .ref 213, .ref 213, .ref 205], hO nS xs lg_503)) (am_cF_to (by with_unfolding_all rfl)) rfl (by with_unfolding_all rfl) ?_
  show am_Wp _ 167 724 _ _ _ _
  refine wp_step (e := (.iastore, 1, 0, 0, 0)) (q := (725, [.ref 205], [.ref 213, .ref 205], hO nS xs lg_504)) (am_cF_to (by with_unfolding_all rfl)) rfl (by with_unfolding_all rfl) ?_
  show am_Wp _ 167 725 _ _ _ _
  refine wp_step (e := (.dup, 1, 0, 0, 0)) (q := (726, [.ref 205], [.ref 213, .ref 213, .ref 205], hO nS xs lg_504)) (am_cF_to (by with_unfolding_all rfl)) rfl (by with_unfolding_all rfl) ?_
  show am_Wp _ 167 726 _ _ _ _
  refine wp_step (e := (.bipush 110, 2, 0, 0, 0)) (q := (728, [.ref 205], [.int 110, .ref 213, .ref 213, .ref 205], hO nS xs lg_504)) (am_cF_to (by with_unfolding_all rfl)) rfl (by with_unfolding_all rfl) ?_
  show am_Wp _ 167 728 _ _ _ _
  refine wp_step (e := (.bipush 121, 2, 0, 0, 0)) (q := (730, [.ref 205], [.int 121, .int 110, .ref 213, .ref 213, .ref 205], hO nS xs lg_504)) (am_cF_to (by with_unfolding_all rfl)) rfl (by with_unfolding_all rfl) ?_
  show am_Wp _ 167 730 _ _ _ _
  refine wp_step (e := (.iastore, 1, 0, 0, 0)) (q := (731, [.ref 205], [.ref 213, .ref 205], hO nS xs lg_505)) (am_cF_to (by with_unfolding_all rfl)) rfl (by with_unfolding_all rfl) ?_
  show am_Wp _ 167 731 _ _ _ _
  refine wp_step (e := (.dup, 1, 0, 0, 0)) (q := (732, [.ref 205], [.ref 213, .ref 213, .ref 205], hO nS xs lg_505)) (am_cF_to (by with_unfolding_all rfl)) rfl (by with_unfolding_all rfl) ?_
  show am_Wp _ 167 732 _ _ _ _
  refine wp_step (e := (.bipush 111, 2, 0, 0, 0)) (q := (734, [.ref 205], [.int 111, .ref 213, .ref 213, .ref 205], hO nS xs lg_505)) (am_cF_to (by with_unfolding_all rfl)) rfl (by with_unfolding_all rfl) ?_
  show am_Wp _ 167 734 _ _ _ _
  refine wp_step (e := (.bipush 32, 2, 0, 0, 0)) (q := (736, [.ref 205], [.int 32, .int 111, .ref 213, .ref 213, .ref 205], hO nS xs lg_505)) (am_cF_to (by with_unfolding_all rfl)) rfl (by with_unfolding_all rfl) ?_
  show am_Wp _ 167 736 _ _ _ _
  refine wp_step (e := (.iastore, 1, 0, 0, 0)) (q := (737, [.ref 205], [.ref 213, .ref 205], hO nS xs lg_506)) (am_cF_to (by with_unfolding_all rfl)) rfl (by with_unfolding_all rfl) ?_
  show am_Wp _ 167 737 _ _ _ _
  refine wp_step (e := (.dup, 1, 0, 0, 0)) (q := (738, [.ref 205], [.ref 213, .ref 213, .ref 205], hO nS xs lg_506)) (am_cF_to (by with_unfolding_all rfl)) rfl (by with_unfolding_all rfl) ?_
  show am_Wp _ 167 738 _ _ _ _
  refine wp_step (e := (.bipush 112, 2, 0, 0, 0)) (q := (740, [.ref 205], [.int 112, .ref 213, .ref 213, .ref 205], hO nS xs lg_506)) (am_cF_to (by with_unfolding_all rfl)) rfl (by with_unfolding_all rfl) ?_
  show am_Wp _ 167 740 _ _ _ _
  refine wp_step (e := (.bipush 115, 2, 0, 0, 0)) (q := (742, [.ref 205], [.int 115, .int 112, .ref 213, .ref 213, .ref 205], hO nS xs lg_506)) (am_cF_to (by with_unfolding_all rfl)) rfl (by with_unfolding_all rfl) ?_
  show am_Wp _ 167 742 _ _ _ _
  refine wp_step (e := (.iastore, 1, 0, 0, 0)) (q := (743, [.ref 205], [.ref 213, .ref 205], hO nS xs lg_507)) (am_cF_to (by with_unfolding_all rfl)) rfl (by with_unfolding_all rfl) ?_
  show am_Wp _ 167 743 _ _ _ _
  refine wp_step (e := (.dup, 1, 0, 0, 0)) (q := (744, [.ref 205], [.ref 213, .ref 213, .ref 205], hO nS xs lg_507)) (am_cF_to (by with_unfolding_all rfl)) rfl (by with_unfolding_all rfl) ?_
  show am_Wp _ 167 744 _ _ _ _
  refine wp_step (e := (.bipush 113, 2, 0, 0, 0)) (q := (746, [.ref 205], [.int 113, .ref 213, .ref 213, .ref 205], hO nS xs lg_507)) (am_cF_to (by with_unfolding_all rfl)) rfl (by with_unfolding_all rfl) ?_
  show am_Wp _ 167 746 _ _ _ _
  refine wp_step (e := (.bipush 101, 2, 0, 0, 0)) (q := (748, [.ref 205], [.int 101, .int 113, .ref 213, .ref 213, .ref 205], hO nS xs lg_507)) (am_cF_to (by with_unfolding_all rfl)) rfl (by with_unfolding_all rfl) ?_
  show am_Wp _ 167 748 _ _ _ _
  refine wp_step (e := (.iastore, 1, 0, 0, 0)) (q := (749, [.ref 205], [.ref 213, .ref 205], hO nS xs lg_508)) (am_cF_to (by with_unfolding_all rfl)) rfl (by with_unfolding_all rfl) ?_
  show am_Wp _ 167 749 _ _ _ _
  refine wp_step (e := (.dup, 1, 0, 0, 0)) (q := (750, [.ref 205], [.ref 213, .ref 213, .ref 205], hO nS xs lg_508)) (am_cF_to (by with_unfolding_all rfl)) rfl (by with_unfolding_all rfl) ?_
  show am_Wp _ 167 750 _ _ _ _
  refine wp_step (e := (.bipush 114, 2, 0, 0, 0)) (q := (752, [.ref 205], [.int 114, .ref 213, .ref 213, .ref 205], hO nS xs lg_508)) (am_cF_to (by with_unfolding_all rfl)) rfl (by with_unfolding_all rfl) ?_
  show am_Wp _ 167 752 _ _ _ _
  refine wp_step (e := (.bipush 108, 2, 0, 0, 0)) (q := (754, [.ref 205], [.int 108, .int 114, .ref 213, .ref 213, .ref 205], hO nS xs lg_508)) (am_cF_to (by with_unfolding_all rfl)) rfl (by with_unfolding_all rfl) ?_
  show am_Wp _ 167 754 _ _ _ _
  refine wp_step (e := (.iastore, 1, 0, 0, 0)) (q := (755, [.ref 205], [.ref 213, .ref 205], hO nS xs lg_509)) (am_cF_to (by with_unfolding_all rfl)) rfl (by with_unfolding_all rfl) ?_
  show am_Wp _ 167 755 _ _ _ _
  refine wp_step (e := (.dup, 1, 0, 0, 0)) (q := (756, [.ref 205], [.ref 213, .ref 213, .ref 205], hO nS xs lg_509)) (am_cF_to (by with_unfolding_all rfl)) rfl (by with_unfolding_all rfl) ?_
  show am_Wp _ 167 756 _ _ _ _
  refine wp_step (e := (.bipush 115, 2, 0, 0, 0)) (q := (758, [.ref 205], [.int 115, .ref 213, .ref 213, .ref 205], hO nS xs lg_509)) (am_cF_to (by with_unfolding_all rfl)) rfl (by with_unfolding_all rfl) ?_
  show am_Wp _ 167 758 _ _ _ _
  refine wp_step (e := (.bipush 108, 2, 0, 0, 0)) (q := (760, [.ref 205], [.int 108, .int 115, .ref 213, .ref 213, .ref 205], hO nS xs lg_509)) (am_cF_to (by with_unfolding_all rfl)) rfl (by with_unfolding_all rfl) ?_
  show am_Wp _ 167 760 _ _ _ _
  refine wp_step (e := (.iastore, 1, 0, 0, 0)) (q := (761, [.ref 205], [.ref 213, .ref 205], hO nS xs lg_510)) (am_cF_to (by with_unfolding_all rfl)) rfl (by with_unfolding_all rfl) ?_
  show am_Wp _ 167 761 _ _ _ _
  refine wp_step (e := (.dup, 1, 0, 0, 0)) (q := (762, [.ref 205], [.ref 213, .ref 213, .ref 205], hO nS xs lg_510)) (am_cF_to (by with_unfolding_all rfl)) rfl (by with_unfolding_all rfl) ?_
  show am_Wp _ 167 762 _ _ _ _
  refine wp_step (e := (.bipush 116, 2, 0, 0, 0)) (q := (764, [.ref 205], [.int 116, .ref 213, .ref 213, .ref 205], hO nS xs lg_510)) (am_cF_to (by with_unfolding_all rfl)) rfl (by with_unfolding_all rfl) ?_
  show am_Wp _ 167 764 _ _ _ _
  refine wp_step (e := (.bipush 32, 2, 0, 0, 0)) (q := (766, [.ref 205], [.int 32, .int 116, .ref 213, .ref 213, .ref 205], hO nS xs lg_510)) (am_cF_to (by with_unfolding_all rfl)) rfl (by with_unfolding_all rfl) ?_
  show am_Wp _ 167 766 _ _ _ _
  refine wp_step (e := (.iastore, 1, 0, 0, 0)) (q := (767, [.ref 205], [.ref 213, .ref 205], hO nS xs lg_511)) (am_cF_to (by with_unfolding_all rfl)) rfl (by with_unfolding_all rfl) ?_
  show am_Wp _ 167 767 _ _ _ _
  refine wp_step (e := (.dup, 1, 0, 0, 0)) (q := (768, [.ref 205], [.ref 213, .ref 213, .ref 205], hO nS xs lg_511)) (am_cF_to (by with_unfolding_all rfl)) rfl (by with_unfolding_all rfl) ?_
  show am_Wp _ 167 768 _ _ _ _
  refine wp_step (e := (.bipush 117, 2, 0, 0, 0)) (q := (770, [.ref 205], [.int 117, .ref 213, .ref 213, .ref 205], hO nS xs lg_511)) (am_cF_to (by with_unfolding_all rfl)) rfl (by with_unfolding_all rfl) ?_
  show am_Wp _ 167 770 _ _ _ _
  refine wp_step (e := (.bipush 111, 2, 0, 0, 0)) (q := (772, [.ref 205], [.int 111, .int 117, .ref 213, .ref 213, .ref 205], hO nS xs lg_511)) (am_cF_to (by with_unfolding_all rfl)) rfl (by with_unfolding_all rfl) ?_
  show am_Wp _ 167 772 _ _ _ _
  refine wp_step (e := (.iastore, 1, 0, 0, 0)) (q := (773, [.ref 205], [.ref 213, .ref 205], hO nS xs lg_512)) (am_cF_to (by with_unfolding_all rfl)) rfl (by with_unfolding_all rfl) ?_
  show am_Wp _ 167 773 _ _ _ _
  refine wp_step (e := (.dup, 1, 0, 0, 0)) (q := (774, [.ref 205], [.ref 213, .ref 213, .ref 205], hO nS xs lg_512)) (am_cF_to (by with_unfolding_all rfl)) rfl (by with_unfolding_all rfl) ?_
  show am_Wp _ 167 774 _ _ _ _
  refine wp_step (e := (.bipush 118, 2, 0, 0, 0)) (q := (776, [.ref 205], [.int 118, .ref 213, .ref 213, .ref 205], hO nS xs lg_512)) (am_cF_to (by with_unfolding_all rfl)) rfl (by with_unfolding_all rfl) ?_
  show am_Wp _ 167 776 _ _ _ _
  refine wp_step (e := (.bipush 102, 2, 0, 0, 0)) (q := (778, [.ref 205], [.int 102, .int 118, .ref 213, .ref 213, .ref 205], hO nS xs lg_512)) (am_cF_to (by with_unfolding_all rfl)) rfl (by with_unfolding_all rfl) ?_
  show am_Wp _ 167 778 _ _ _ _
  refine wp_step (e := (.iastore, 1, 0, 0, 0)) (q := (779, [.ref 205], [.ref 213, .ref 205], hO nS xs lg_513)) (am_cF_to (by with_unfolding_all rfl)) rfl (by with_unfolding_all rfl) ?_
  show am_Wp _ 167 779 _ _ _ _
  refine wp_step (e := (.dup, 1, 0, 0, 0)) (q := (780, [.ref 205], [.ref 213, .ref 213, .ref 205], hO nS xs lg_513)) (am_cF_to (by with_unfolding_all rfl)) rfl (by with_unfolding_all rfl) ?_
  show am_Wp _ 167 780 _ _ _ _
  refine wp_step (e := (.bipush 119, 2, 0, 0, 0)) (q := (782, [.ref 205], [.int 119, .ref 213, .ref 213, .ref 205], hO nS xs lg_513)) (am_cF_to (by with_unfolding_all rfl)) rfl (by with_unfolding_all rfl) ?_
  show am_Wp _ 167 782 _ _ _ _
  refine wp_step (e := (.bipush 32, 2, 0, 0, 0)) (q := (784, [.ref 205], [.int 32, .int 119, .ref 213, .ref 213, .ref 205], hO nS xs lg_513)) (am_cF_to (by with_unfolding_all rfl)) rfl (by with_unfolding_all rfl) ?_
  show am_Wp _ 167 784 _ _ _ _
  refine wp_step (e := (.iastore, 1, 0, 0, 0)) (q := (785, [.ref 205], [.ref 213, .ref 205], hO nS xs lg_514)) (am_cF_to (by with_unfolding_all rfl)) rfl (by with_unfolding_all rfl) ?_
  show am_Wp _ 167 785 _ _ _ _
  refine wp_step (e := (.dup, 1, 0, 0, 0)) (q := (786, [.ref 205], [.ref 213, .ref 213, .ref 205], hO nS xs lg_514)) (am_cF_to (by with_unfolding_all rfl)) rfl (by with_unfolding_all rfl) ?_
  show am_Wp _ 167 786 _ _ _ _
  refine wp_step (e := (.bipush 120, 2, 0, 0, 0)) (q := (788, [.ref 205], [.int 120, .ref 213, .ref 213, .ref 205], hO nS xs lg_514)) (am_cF_to (by with_unfolding_all rfl)) rfl (by with_unfolding_all rfl) ?_
  show am_Wp _ 167 788 _ _ _ _
  refine wp_step (e := (.bipush 103, 2, 0, 0, 0)) (q := (790, [.ref 205], [.int 103, .int 120, .ref 213, .ref 213, .ref 205], hO nS xs lg_514)) (am_cF_to (by with_unfolding_all rfl)) rfl (by with_unfolding_all rfl) ?_
  show am_Wp _ 167 790 _ _ _ _
  refine wp_step (e := (.iastore, 1, 0, 0, 0)) (q := (791, [.ref 205], [.ref 213, .ref 205], hO nS xs lg_515)) (am_cF_to (by with_unfolding_all rfl)) rfl (by with_unfolding_all rfl) ?_
  show am_Wp _ 167 791 _ _ _ _
  refine wp_step (e := (.dup, 1, 0, 0, 0)) (q := (792, [.ref 205], [.ref 213, .ref 213, .ref 205], hO nS xs lg_515)) (am_cF_to (by with_unfolding_all rfl)) rfl (by with_unfolding_all rfl) ?_
  show am_Wp _ 167 792 _ _ _ _
  refine wp_step (e := (.bipush 121, 2, 0, 0, 0)) (q := (794, [.ref 205], [.int 121, .ref 213, .ref 213, .ref 205], hO nS xs lg_515)) (am_cF_to (by with_unfolding_all rfl)) rfl (by with_unfolding_all rfl) ?_
  show am_Wp _ 167 794 _ _ _ _
  refine wp_step (e := (.bipush 111, 2, 0, 0, 0)) (q := (796, [.ref 205], [.int 111, .int 121, .ref 213, .ref 213, .ref 205], hO nS xs lg_515)) (am_cF_to (by with_unfolding_all rfl)) rfl (by with_unfolding_all rfl) ?_
  show am_Wp _ 167 796 _ _ _ _
  refine wp_step (e := (.iastore, 1, 0, 0, 0)) (q := (797, [.ref 205], [.ref 213, .ref 205], hO nS xs lg_516)) (am_cF_to (by with_unfolding_all rfl)) rfl (by with_unfolding_all rfl) ?_
  show am_Wp _ 167 797 _ _ _ _
  refine wp_step (e := (.dup, 1, 0, 0, 0)) (q := (798, [.ref 205], [.ref 213, .ref 213, .ref 205], hO nS xs lg_516)) (am_cF_to (by with_unfolding_all rfl)) rfl (by with_unfolding_all rfl) ?_
  show am_Wp _ 167 798 _ _ _ _
  refine wp_step (e := (.bipush 122, 2, 0, 0, 0)) (q := (800, [.ref 205], [.int 122, .ref 213, .ref 213, .ref 205], hO nS xs lg_516)) (am_cF_to (by with_unfolding_all rfl)) rfl (by with_unfolding_all rfl) ?_
  show am_Wp _ 167 800 _ _ _ _
  refine wp_step (e := (.bipush 111, 2, 0, 0, 0)) (q := (802, [.ref 205], [.int 111, .int 122, .ref 213, .ref 213, .ref 205], hO nS xs lg_516)) (am_cF_to (by with_unfolding_all rfl)) rfl (by with_unfolding_all rfl) ?_
  show am_Wp _ 167 802 _ _ _ _
  refine wp_step (e := (.iastore, 1, 0, 0, 0)) (q := (803, [.ref 205], [.ref 213, .ref 205], hO nS xs lg_517)) (am_cF_to (by with_unfolding_all rfl)) rfl (by with_unfolding_all rfl) ?_
  show am_Wp _ 167 803 _ _ _ _
  refine wp_step (e := (.dup, 1, 0, 0, 0)) (q := (804, [.ref 205], [.ref 213, .ref 213, .ref 205], hO nS xs lg_517)) (am_cF_to (by with_unfolding_all rfl)) rfl (by with_unfolding_all rfl) ?_
  show am_Wp _ 167 804 _ _ _ _
  refine wp_step (e := (.bipush 123, 2, 0, 0, 0)) (q := (806, [.ref 205], [.int 123, .ref 213, .ref 213, .ref 205], hO nS xs lg_517)) (am_cF_to (by with_unfolding_all rfl)) rfl (by with_unfolding_all rfl) ?_
  show am_Wp _ 167 806 _ _ _ _
  refine wp_step (e := (.bipush 100, 2, 0, 0, 0)) (q := (808, [.ref 205], [.int 100, .int 123, .ref 213, .ref 213, .ref 205], hO nS xs lg_517)) (am_cF_to (by with_unfolding_all rfl)) rfl (by with_unfolding_all rfl) ?_
  show am_Wp _ 167 808 _ _ _ _
  refine wp_step (e := (.iastore, 1, 0, 0, 0)) (q := (809, [.ref 205], [.ref 213, .ref 205], hO nS xs lg_518)) (am_cF_to (by with_unfolding_all rfl)) rfl (by with_unfolding_all rfl) ?_
  show am_Wp _ 167 809 _ _ _ _
  refine wp_step (e := (.dup, 1, 0, 0, 0)) (q := (810, [.ref 205], [.ref 213, .ref 213, .ref 205], hO nS xs lg_518)) (am_cF_to (by with_unfolding_all rfl)) rfl (by with_unfolding_all rfl) ?_
  show am_Wp _ 167 810 _ _ _ _
  refine wp_step (e := (.bipush 124, 2, 0, 0, 0)) (q := (812, [.ref 205], [.int 124, .ref 213, .ref 213, .ref 205], hO nS xs lg_518)) (am_cF_to (by with_unfolding_all rfl)) rfl (by with_unfolding_all rfl) ?_
  show am_Wp _ 167 812 _ _ _ _
  refine wp_step (e := (.bipush 32, 2, 0, 0, 0)) (q := (814, [.ref 205], [.int 32, .int 124, .ref 213, .ref 213, .ref 205], hO nS xs lg_518)) (am_cF_to (by with_unfolding_all rfl)) rfl (by with_unfolding_all rfl) ?_
  show am_Wp _ 167 814 _ _ _ _
  refine wp_step (e := (.iastore, 1, 0, 0, 0)) (q := (815, [.ref 205], [.ref 213, .ref 205], hO nS xs lg_519)) (am_cF_to (by with_unfolding_all rfl)) rfl (by with_unfolding_all rfl) ?_
  show am_Wp _ 167 815 _ _ _ _
  refine wp_step (e := (.dup, 1, 0, 0, 0)) (q := (816, [.ref 205], [.ref 213, .ref 213, .ref 205], hO nS xs lg_519)) (am_cF_to (by with_unfolding_all rfl)) rfl (by with_unfolding_all rfl) ?_
  show am_Wp _ 167 816 _ _ _ _
  refine wp_step (e := (.bipush 125, 2, 0, 0, 0)) (q := (818, [.ref 205], [.int 125, .ref 213, .ref 213, .ref 205], hO nS xs lg_519)) (am_cF_to (by with_unfolding_all rfl)) rfl (by with_unfolding_all rfl) ?_
  show am_Wp _ 167 818 _ _ _ _
  refine wp_step (e := (.bipush 98, 2, 0, 0, 0)) (q := (820, [.ref 205], [.int 98, .int 125, .ref 213, .ref 213, .ref 205], hO nS xs lg_519)) (am_cF_to (by with_unfolding_all rfl)) rfl (by with_unfolding_all rfl) ?_
  show am_Wp _ 167 820 _ _ _ _
  refine wp_step (e := (.iastore, 1, 0, 0, 0)) (q := (821, [.ref 205], [.ref 213, .ref 205], hO nS xs lg_520)) (am_cF_to (by with_unfolding_all rfl)) rfl (by with_unfolding_all rfl) ?_
  show am_Wp _ 167 821 _ _ _ _
  refine wp_step (e := (.dup, 1, 0, 0, 0)) (q := (822, [.ref 205], [.ref 213, .ref 213, .ref 205], hO nS xs lg_520)) (am_cF_to (by with_unfolding_all rfl)) rfl (by with_unfolding_all rfl) ?_
  show am_Wp _ 167 822 _ _ _ _
  refine wp_step (e := (.bipush 126, 2, 0, 0, 0)) (q := (824, [.ref 205], [.int 126, .ref 213, .ref 213, .ref 205], hO nS xs lg_520)) (am_cF_to (by with_unfolding_all rfl)) rfl (by with_unfolding_all rfl) ?_
  show am_Wp _ 167 824 _ _ _ _
  refine wp_step (e := (.bipush 121, 2, 0, 0, 0)) (q := (826, [.ref 205], [.int 121, .int 126, .ref 213, .ref 213, .ref 205], hO nS xs lg_520)) (am_cF_to (by with_unfolding_all rfl)) rfl (by with_unfolding_all rfl) ?_
  show am_Wp _ 167 826 _ _ _ _
  refine wp_step (e := (.iastore, 1, 0, 0, 0)) (q := (827, [.ref 205], [.ref 213, .ref 205], hO nS xs lg_521)) (am_cF_to (by with_unfolding_all rfl)) rfl (by with_unfolding_all rfl) ?_
  show am_Wp _ 167 827 _ _ _ _
  refine wp_step (e := (.dup, 1, 0, 0, 0)) (q := (828, [.ref 205], [.ref 213, .ref 213, .ref 205], hO nS xs lg_521)) (am_cF_to (by with_unfolding_all rfl)) rfl (by with_unfolding_all rfl) ?_
  show am_Wp _ 167 828 _ _ _ _
  refine wp_step (e := (.bipush 127, 2, 0, 0, 0)) (q := (830, [.ref 205], [.int 127, .ref 213, .ref 213, .ref 205], hO nS xs lg_521)) (am_cF_to (by with_unfolding_all rfl)) rfl (by with_unfolding_all rfl) ?_
  show am_Wp _ 167 830 _ _ _ _
  refine wp_step (e := (.bipush 32, 2, 0, 0, 0)) (q := (832, [.ref 205], [.int 32, .int 127, .ref 213, .ref 213, .ref 205], hO nS xs lg_521)) (am_cF_to (by with_unfolding_all rfl)) rfl (by with_unfolding_all rfl) ?_
  show am_Wp _ 167 832 _ _ _ _
  refine wp_step (e := (.iastore, 1, 0, 0, 0)) (q := (833, [.ref 205], [.ref 213, .ref 205], hO nS xs lg_522)) (am_cF_to (by with_unfolding_all rfl)) rfl (by with_unfolding_all rfl) ?_
  show am_Wp _ 167 833 _ _ _ _
  refine wp_step (e := (.putfield 31, 3, 11, 20, 148)) (q := (836, [.ref 205], [], hO nS xs lg_523)) (am_cF_to (by with_unfolding_all rfl)) rfl (by with_unfolding_all rfl) ?_
  show am_Wp _ 167 836 _ _ _ _
  refine wp_step (e := (.aload_n 0, 1, 0, 0, 0)) (q := (837, [.ref 205], [.ref 205], hO nS xs lg_523)) (am_cF_to (by with_unfolding_all rfl)) rfl (by with_unfolding_all rfl) ?_
  show am_Wp _ 167 837 _ _ _ _
  refine wp_step (e := (.iconst 2, 1, 0, 0, 0)) (q := (838, [.ref 205], [.int 2, .ref 205], hO nS xs lg_523)) (am_cF_to (by with_unfolding_all rfl)) rfl (by with_unfolding_all rfl) ?_
  show am_Wp _ 167 838 _ _ _ _
  refine wp_step (e := (.newarray .int, 2, 0, 0, 0)) (q := (840, [.ref 205], [.ref 214, .ref 205], hO nS xs lg_524)) (am_cF_to (by with_unfolding_all rfl)) rfl (by with_unfolding_all rfl) ?_
  show am_Wp _ 167 840 _ _ _ _
  refine wp_step (e := (.putfield 34, 3, 11, 21, 149)) (q := (843, [.ref 205], [], hO nS xs lg_525)) (am_cF_to (by with_unfolding_all rfl)) rfl (by with_unfolding_all rfl) ?_
  show am_Wp _ 167 843 _ _ _ _
  refine wp_step (e := (.aload_n 0, 1, 0, 0, 0)) (q := (844, [.ref 205], [.ref 205], hO nS xs lg_525)) (am_cF_to (by with_unfolding_all rfl)) rfl (by with_unfolding_all rfl) ?_
  show am_Wp _ 167 844 _ _ _ _
  refine wp_step (e := (.bipush 48, 2, 0, 0, 0)) (q := (846, [.ref 205], [.int 48, .ref 205], hO nS xs lg_525)) (am_cF_to (by with_unfolding_all rfl)) rfl (by with_unfolding_all rfl) ?_
  show am_Wp _ 167 846 _ _ _ _
  refine wp_step (e := (.newarray .int, 2, 0, 0, 0)) (q := (848, [.ref 205], [.ref 215, .ref 205], hO nS xs lg_526)) (am_cF_to (by with_unfolding_all rfl)) rfl (by with_unfolding_all rfl) ?_
  show am_Wp _ 167 848 _ _ _ _
  refine wp_step (e := (.putfield 37, 3, 11, 22, 150)) (q := (851, [.ref 205], [], hO nS xs lg_527)) (am_cF_to (by with_unfolding_all rfl)) rfl (by with_unfolding_all rfl) ?_
  show am_Wp _ 167 851 _ _ _ _
  refine wp_step (e := (.aload_n 0, 1, 0, 0, 0)) (q := (852, [.ref 205], [.ref 205], hO nS xs lg_527)) (am_cF_to (by with_unfolding_all rfl)) rfl (by with_unfolding_all rfl) ?_
  show am_Wp _ 167 852 _ _ _ _
  refine wp_step (e := (.bipush 48, 2, 0, 0, 0)) (q := (854, [.ref 205], [.int 48, .ref 205], hO nS xs lg_527)) (am_cF_to (by with_unfolding_all rfl)) rfl (by with_unfolding_all rfl) ?_
  show am_Wp _ 167 854 _ _ _ _
  refine wp_step (e := (.newarray .int, 2, 0, 0, 0)) (q := (856, [.ref 205], [.ref 216, .ref 205], hO nS xs lg_528)) (am_cF_to (by with_unfolding_all rfl)) rfl (by with_unfolding_all rfl) ?_
  show am_Wp _ 167 856 _ _ _ _
  refine wp_step (e := (.putfield 40, 3, 11, 23, 151)) (q := (859, [.ref 205], [], hO nS xs lg_529)) (am_cF_to (by with_unfolding_all rfl)) rfl (by with_unfolding_all rfl) ?_
  show am_Wp _ 167 859 _ _ _ _
  refine wp_step (e := (.aload_n 0, 1, 0, 0, 0)) (q := (860, [.ref 205], [.ref 205], hO nS xs lg_529)) (am_cF_to (by with_unfolding_all rfl)) rfl (by with_unfolding_all rfl) ?_
  show am_Wp _ 167 860 _ _ _ _
  refine wp_step (e := (.bipush 48, 2, 0, 0, 0)) (q := (862, [.ref 205], [.int 48, .ref 205], hO nS xs lg_529)) (am_cF_to (by with_unfolding_all rfl)) rfl (by with_unfolding_all rfl) ?_
  show am_Wp _ 167 862 _ _ _ _
  refine wp_step (e := (.newarray .int, 2, 0, 0, 0)) (q := (864, [.ref 205], [.ref 217, .ref 205], hO nS xs lg_530)) (am_cF_to (by with_unfolding_all rfl)) rfl (by with_unfolding_all rfl) ?_
  show am_Wp _ 167 864 _ _ _ _
  refine wp_step (e := (.putfield 43, 3, 11, 24, 152)) (q := (867, [.ref 205], [], hO nS xs lg_531)) (am_cF_to (by with_unfolding_all rfl)) rfl (by with_unfolding_all rfl) ?_
  show am_Wp _ 167 867 _ _ _ _
  refine wp_step (e := (.aload_n 0, 1, 0, 0, 0)) (q := (868, [.ref 205], [.ref 205], hO nS xs lg_531)) (am_cF_to (by with_unfolding_all rfl)) rfl (by with_unfolding_all rfl) ?_
  show am_Wp _ 167 868 _ _ _ _
  refine wp_step (e := (.bipush 48, 2, 0, 0, 0)) (q := (870, [.ref 205], [.int 48, .ref 205], hO nS xs lg_531)) (am_cF_to (by with_unfolding_all rfl)) rfl (by with_unfolding_all rfl) ?_
  show am_Wp _ 167 870 _ _ _ _
  refine wp_step (e := (.newarray .int, 2, 0, 0, 0)) (q := (872, [.ref 205], [.ref 218, .ref 205], hO nS xs lg_532)) (am_cF_to (by with_unfolding_all rfl)) rfl (by with_unfolding_all rfl) ?_
  show am_Wp _ 167 872 _ _ _ _
  refine wp_step (e := (.putfield 46, 3, 11, 25, 153)) (q := (875, [.ref 205], [], hO nS xs lg_533)) (am_cF_to (by with_unfolding_all rfl)) rfl (by with_unfolding_all rfl) ?_
  show am_Wp _ 167 875 _ _ _ _
  refine wp_step (e := (.aload_n 0, 1, 0, 0, 0)) (q := (876, [.ref 205], [.ref 205], hO nS xs lg_533)) (am_cF_to (by with_unfolding_all rfl)) rfl (by with_unfolding_all rfl) ?_
  show am_Wp _ 167 876 _ _ _ _
  refine wp_step (e := (.sipush 1200, 3, 0, 0, 0)) (q := (879, [.ref 205], [.int 1200, .ref 205], hO nS xs lg_533)) (am_cF_to (by with_unfolding_all rfl)) rfl (by with_unfolding_all rfl) ?_
  show am_Wp _ 167 879 _ _ _ _
  refine wp_step (e := (.newarray .int, 2, 0, 0, 0)) (q := (881, [.ref 205], [.ref 219, .ref 205], hO nS xs lg_534)) (am_cF_to (by with_unfolding_all rfl)) rfl (by with_unfolding_all rfl) ?_
  show am_Wp _ 167 881 _ _ _ _
  refine wp_step (e := (.putfield 49, 3, 11, 26, 154)) (q := (884, [.ref 205], [], hO nS xs lg_535)) (am_cF_to (by with_unfolding_all rfl)) rfl (by with_unfolding_all rfl) ?_
  show am_Wp _ 167 884 _ _ _ _
  refine wp_step (e := (.aload_n 0, 1, 0, 0, 0)) (q := (885, [.ref 205], [.ref 205], hO nS xs lg_535)) (am_cF_to (by with_unfolding_all rfl)) rfl (by with_unfolding_all rfl) ?_
  show am_Wp _ 167 885 _ _ _ _
  refine wp_step (e := (.sipush 1200, 3, 0, 0, 0)) (q := (888, [.ref 205], [.int 1200, .ref 205], hO nS xs lg_535)) (am_cF_to (by with_unfolding_all rfl)) rfl (by with_unfolding_all rfl) ?_
  show am_Wp _ 167 888 _ _ _ _
  refine wp_step (e := (.newarray .int, 2, 0, 0, 0)) (q := (890, [.ref 205], [.ref 220, .ref 205], hO nS xs lg_536)) (am_cF_to (by with_unfolding_all rfl)) rfl (by with_unfolding_all rfl) ?_
  show am_Wp _ 167 890 _ _ _ _
  refine wp_step (e := (.putfield 52, 3, 11, 27, 155)) (q := (893, [.ref 205], [], hO nS xs lg_537)) (am_cF_to (by with_unfolding_all rfl)) rfl (by with_unfolding_all rfl) ?_
  show am_Wp _ 167 893 _ _ _ _
  refine wp_step (e := (.aload_n 0, 1, 0, 0, 0)) (q := (894, [.ref 205], [.ref 205], hO nS xs lg_537)) (am_cF_to (by with_unfolding_all rfl)) rfl (by with_unfolding_all rfl) ?_
  show am_Wp _ 167 894 _ _ _ _
  refine wp_step (e := (.bipush 40, 2, 0, 0, 0)) (q := (896, [.ref 205], [.int 40, .ref 205], hO nS xs lg_537)) (am_cF_to (by with_unfolding_all rfl)) rfl (by with_unfolding_all rfl) ?_
  show am_Wp _ 167 896 _ _ _ _
  refine wp_step (e := (.newarray .int, 2, 0, 0, 0)) (q := (898, [.ref 205], [.ref 221, .ref 205], hO nS xs lg_538)) (am_cF_to (by with_unfolding_all rfl)) rfl (by with_unfolding_all rfl) ?_
  show am_Wp _ 167 898 _ _ _ _
  refine wp_step (e := (.putfield 55, 3, 11, 31, 156)) (q := (901, [.ref 205], [], hO nS xs lg_539)) (am_cF_to (by with_unfolding_all rfl)) rfl (by with_unfolding_all rfl) ?_
  show am_Wp _ 167 901 _ _ _ _
  refine wp_step (e := (.aload_n 0, 1, 0, 0, 0)) (q := (902, [.ref 205], [.ref 205], hO nS xs lg_539)) (am_cF_to (by with_unfolding_all rfl)) rfl (by with_unfolding_all rfl) ?_
  show am_Wp _ 167 902 _ _ _ _
  refine wp_step (e := (.iconst (-1), 1, 0, 0, 0)) (q := (903, [.ref 205], [.int (-1), .ref 205], hO nS xs lg_539)) (am_cF_to (by with_unfolding_all rfl)) rfl (by with_unfolding_all rfl) ?_
  show am_Wp _ 167 903 _ _ _ _
  refine wp_step (e := (.putfield 58, 3, 11, 36, 157)) (q := (906, [.ref 205], [], hO nS xs lg_540)) (am_cF_to (by with_unfolding_all rfl)) rfl (by with_unfolding_all rfl) ?_
  show am_Wp _ 167 906 _ _ _ _
  refine wp_step (e := (.aload_n 0, 1, 0, 0, 0)) (q := (907, [.ref 205], [.ref 205], hO nS xs lg_540)) (am_cF_to (by with_unfolding_all rfl)) rfl (by with_unfolding_all rfl) ?_
  show am_Wp _ 167 907 _ _ _ _
  refine wp_step (e := (.sipush 128, 3, 0, 0, 0)) (q := (910, [.ref 205], [.int 128, .ref 205], hO nS xs lg_540)) (am_cF_to (by with_unfolding_all rfl)) rfl (by with_unfolding_all rfl) ?_
  show am_Wp _ 167 910 _ _ _ _
  refine wp_step (e := (.newarray .int, 2, 0, 0, 0)) (q := (912, [.ref 205], [.ref 222, .ref 205], hO nS xs lg_541)) (am_cF_to (by with_unfolding_all rfl)) rfl (by with_unfolding_all rfl) ?_
  show am_Wp _ 167 912 _ _ _ _
  refine wp_step (e := (.putfield 62, 3, 11, 38, 158)) (q := (915, [.ref 205], [], hO nS xs lg_542)) (am_cF_to (by with_unfolding_all rfl)) rfl (by with_unfolding_all rfl) ?_
  show am_Wp _ 167 915 _ _ _ _
  refine wp_step (e := (.aload_n 0, 1, 0, 0, 0)) (q := (916, [.ref 205], [.ref 205], hO nS xs lg_542)) (am_cF_to (by with_unfolding_all rfl)) rfl (by with_unfolding_all rfl) ?_
  show am_Wp _ 167 916 _ _ _ _
  refine wp_step (e := (.sipush 128, 3, 0, 0, 0)) (q := (919, [.ref 205], [.int 128, .ref 205], hO nS xs lg_542)) (am_cF_to (by with_unfolding_all rfl)) rfl (by with_unfolding_all rfl) ?_
  show am_Wp _ 167 919 _ _ _ _
  refine wp_step (e := (.newarray .int, 2, 0, 0, 0)) (q := (921, [.ref 205], [.ref 223, .ref 205], hO nS xs lg_543)) (am_cF_to (by with_unfolding_all rfl)) rfl (by with_unfolding_all rfl) ?_
  show am_Wp _ 167 921 _ _ _ _
  refine wp_step (e := (.putfield 65, 3, 11, 40, 159)) (q := (924, [.ref 205], [], hO nS xs lg_544)) (am_cF_to (by with_unfolding_all rfl)) rfl (by with_unfolding_all rfl) ?_
  show am_Wp _ 167 924 _ _ _ _
  refine wp_step (e := (.aload_n 0, 1, 0, 0, 0)) (q := (925, [.ref 205], [.ref 205], hO nS xs lg_544)) (am_cF_to (by with_unfolding_all rfl)) rfl (by with_unfolding_all rfl) ?_
  show am_Wp _ 167 925 _ _ _ _
  refine wp_step (e := (.bipush 16, 2, 0, 0, 0)) (q := (927, [.ref 205], [.int 16, .ref 205], hO nS xs lg_544)) (am_cF_to (by with_unfolding_all rfl)) rfl (by with_unfolding_all rfl) ?_
  show am_Wp _ 167 927 _ _ _ _
  refine wp_step (e := (.newarray .int, 2, 0, 0, 0)) (q := (929, [.ref 205], [.ref 224, .ref 205], hO nS xs lg_545)) (am_cF_to (by with_unfolding_all rfl)) rfl (by with_unfolding_all rfl) ?_
  show am_Wp _ 167 929 _ _ _ _
  refine wp_step (e := (.putfield 68, 3, 11, 42, 160)) (q := (932, [.ref 205], [], hO nS xs lg_546)) (am_cF_to (by with_unfolding_all rfl)) rfl (by with_unfolding_all rfl) ?_
  show am_Wp _ 167 932 _ _ _ _
  refine wp_step (e := (.aload_n 0, 1, 0, 0, 0)) (q := (933, [.ref 205], [.ref 205], hO nS xs lg_546)) (am_cF_to (by with_unfolding_all rfl)) rfl (by with_unfolding_all rfl) ?_
  show am_Wp _ 167 933 _ _ _ _
  refine wp_step (e := (.bipush 9, 2, 0, 0, 0)) (q := (935, [.ref 205], [.int 9, .ref 205], hO nS xs lg_546)) (am_cF_to (by with_unfolding_all rfl)) rfl (by with_unfolding_all rfl) ?_
  show am_Wp _ 167 935 _ _ _ _
  refine wp_step (e := (.newarray .int, 2, 0, 0, 0)) (q := (937, [.ref 205], [.ref 225, .ref 205], hO nS xs lg_547)) (am_cF_to (by with_unfolding_all rfl)) rfl (by with_unfolding_all rfl) ?_
  show am_Wp _ 167 937 _ _ _ _
  refine wp_step (e := (.putfield 71, 3, 11, 43, 161)) (q := (940, [.ref 205], [], hO nS xs lg_548)) (am_cF_to (by with_unfolding_all rfl)) rfl (by with_unfolding_all rfl) ?_
  show am_Wp _ 167 940 _ _ _ _
  refine wp_step (e := (.aload_n 0, 1, 0, 0, 0)) (q := (941, [.ref 205], [.ref 205], hO nS xs lg_548)) (am_cF_to (by with_unfolding_all rfl)) rfl (by with_unfolding_all rfl) ?_
  show am_Wp _ 167 941 _ _ _ _
  refine wp_step (e := (.sipush 420, 3, 0, 0, 0)) (q := (944, [.ref 205], [.int 420, .ref 205], hO nS xs lg_548)) (am_cF_to (by with_unfolding_all rfl)) rfl (by with_unfolding_all rfl) ?_
  show am_Wp _ 167 944 _ _ _ _
  refine wp_step (e := (.newarray .int, 2, 0, 0, 0)) (q := (946, [.ref 205], [.ref 226, .ref 205], hO nS xs lg_549)) (am_cF_to (by with_unfolding_all rfl)) rfl (by with_unfolding_all rfl) ?_
  show am_Wp _ 167 946 _ _ _ _
  refine wp_step (e := (.putfield 74, 3, 11, 44, 162)) (q := (949, [.ref 205], [], hO nS xs lg_550)) (am_cF_to (by with_unfolding_all rfl)) rfl (by with_unfolding_all rfl) ?_
  show am_Wp _ 167 949 _ _ _ _
  refine wp_step (e := (.aload_n 0, 1, 0, 0, 0)) (q := (950, [.ref 205], [.ref 205], hO nS xs lg_550)) (am_cF_to (by with_unfolding_all rfl)) rfl (by with_unfolding_all rfl) ?_
  show am_Wp _ 167 950 _ _ _ _
  refine wp_step (e := (.bipush 14, 2, 0, 0, 0)) (q := (952, [.ref 205], [.int 14, .ref 205], hO nS xs lg_550)) (am_cF_to (by with_unfolding_all rfl)) rfl (by with_unfolding_all rfl) ?_
  show am_Wp _ 167 952 _ _ _ _
  refine wp_step (e := (.newarray .int, 2, 0, 0, 0)) (q := (954, [.ref 205], [.ref 227, .ref 205], hO nS xs lg_551)) (am_cF_to (by with_unfolding_all rfl)) rfl (by with_unfolding_all rfl) ?_
  show am_Wp _ 167 954 _ _ _ _
  refine wp_step (e := (.putfield 77, 3, 11, 46, 163)) (q := (957, [.ref 205], [], hO nS xs lg_552)) (am_cF_to (by with_unfolding_all rfl)) rfl (by with_unfolding_all rfl) ?_
  show am_Wp _ 167 957 _ _ _ _
  refine wp_step (e := (.aload_n 0, 1, 0, 0, 0)) (q := (958, [.ref 205], [.ref 205], hO nS xs lg_552)) (am_cF_to (by with_unfolding_all rfl)) rfl (by with_unfolding_all rfl) ?_
  show am_Wp _ 167 958 _ _ _ _
  refine wp_step (e := (.bipush 84, 2, 0, 0, 0)) (q := (960, [.ref 205], [.int 84, .ref 205], hO nS xs lg_552)) (am_cF_to (by with_unfolding_all rfl)) rfl (by with_unfolding_all rfl) ?_
  show am_Wp _ 167 960 _ _ _ _
  refine wp_step (e := (.newarray .int, 2, 0, 0, 0)) (q := (962, [.ref 205], [.ref 228, .ref 205], hO nS xs lg_553)) (am_cF_to (by with_unfolding_all rfl)) rfl (by with_unfolding_all rfl) ?_
  show am_Wp _ 167 962 _ _ _ _
  refine wp_step (e := (.putfield 80, 3, 11, 47, 164)) (q := (965, [.ref 205], [], hO nS xs lg_554)) (am_cF_to (by with_unfolding_all rfl)) rfl (by with_unfolding_all rfl) ?_
  show am_Wp _ 167 965 _ _ _ _
  refine wp_step (e := (.aload_n 0, 1, 0, 0, 0)) (q := (966, [.ref 205], [.ref 205], hO nS xs lg_554)) (am_cF_to (by with_unfolding_all rfl)) rfl (by with_unfolding_all rfl) ?_
  show am_Wp _ 167 966 _ _ _ _
  refine wp_step (e := (.bipush 16, 2, 0, 0, 0)) (q := (968, [.ref 205], [.int 16, .ref 205], hO nS xs lg_554)) (am_cF_to (by with_unfolding_all rfl)) rfl (by with_unfolding_all rfl) ?_
  show am_Wp _ 167 968 _ _ _ _
  refine wp_step (e := (.newarray .int, 2, 0, 0, 0)) (q := (970, [.ref 205], [.ref 229, .ref 205], hO nS xs lg_555)) (am_cF_to (by with_unfolding_all rfl)) rfl (by with_unfolding_all rfl) ?_
  show am_Wp _ 167 970 _ _ _ _
  refine wp_step (e := (.putfield 83, 3, 11, 48, 165)) (q := (973, [.ref 205], [], hO nS xs lg_556)) (am_cF_to (by with_unfolding_all rfl)) rfl (by with_unfolding_all rfl) ?_
  show am_Wp _ 167 973 _ _ _ _
  refine wp_step (e := (.aload_n 0, 1, 0, 0, 0)) (q := (974, [.ref 205], [.ref 205], hO nS xs lg_556)) (am_cF_to (by with_unfolding_all rfl)) rfl (by with_unfolding_all rfl) ?_
  show am_Wp _ 167 974 _ _ _ _
  refine wp_step (e := (.bipush 10, 2, 0, 0, 0)) (q := (976, [.ref 205], [.int 10, .ref 205], hO nS xs lg_556)) (am_cF_to (by with_unfolding_all rfl)) rfl (by with_unfolding_all rfl) ?_
  show am_Wp _ 167 976 _ _ _ _
  refine wp_step (e := (.newarray .int, 2, 0, 0, 0)) (q := (978, [.ref 205], [.ref 230, .ref 205], hO nS xs lg_557)) (am_cF_to (by with_unfolding_all rfl)) rfl (by with_unfolding_all rfl) ?_
  show am_Wp _ 167 978 _ _ _ _
  refine wp_step (e := (.dup, 1, 0, 0, 0)) (q := (979, [.ref 205], [.ref 230, .ref 230, .ref 205], hO nS xs lg_557)) (am_cF_to (by with_unfolding_all rfl)) rfl (by with_unfolding_all rfl) ?_
  show am_Wp _ 167 979 _ _ _ _
  refine wp_step (e := (.iconst 0, 1, 0, 0, 0)) (q := (980, [.ref 205], [.int 0, .ref 230, .ref 230, .ref 205], hO nS xs lg_557)) (am_cF_to (by with_unfolding_all rfl)) rfl (by with_unfolding_all rfl) ?_
  show am_Wp _ 167 980 _ _ _ _
  refine wp_step (e := (.bipush 6, 2, 0, 0, 0)) (q := (982, [.ref 205], [.int 6, .int 0, .ref 230, .ref 230, .ref 205], hO nS xs lg_557)) (am_cF_to (by with_unfolding_all rfl)) rfl (by with_unfolding_all rfl) ?_
  show am_Wp _ 167 982 _ _ _ _
  refine wp_step (e := (.iastore, 1, 0, 0, 0)) (q := (983, [.ref 205], [.ref 230, .ref 205], hO nS xs lg_558)) (am_cF_to (by with_unfolding_all rfl)) rfl (by with_unfolding_all rfl) ?_
  show am_Wp _ 167 983 _ _ _ _
  refine wp_step (e := (.dup, 1, 0, 0, 0)) (q := (984, [.ref 205], [.ref 230, .ref 230, .ref 205], hO nS xs lg_558)) (am_cF_to (by with_unfolding_all rfl)) rfl (by with_unfolding_all rfl) ?_
  show am_Wp _ 167 984 _ _ _ _
  refine wp_step (e := (.iconst 1, 1, 0, 0, 0)) (q := (985, [.ref 205], [.int 1, .ref 230, .ref 230, .ref 205], hO nS xs lg_558)) (am_cF_to (by with_unfolding_all rfl)) rfl (by with_unfolding_all rfl) ?_
  show am_Wp _ 167 985 _ _ _ _
  refine wp_step (e := (.iconst 2, 1, 0, 0, 0)) (q := (986, [.ref 205], [.int 2, .int 1, .ref 230, .ref 230, .ref 205], hO nS xs lg_558)) (am_cF_to (by with_unfolding_all rfl)) rfl (by with_unfolding_all rfl) ?_
  show am_Wp _ 167 986 _ _ _ _
  refine wp_step (e := (.iastore, 1, 0, 0, 0)) (q := (987, [.ref 205], [.ref 230, .ref 205], hO nS xs lg_559)) (am_cF_to (by with_unfolding_all rfl)) rfl (by with_unfolding_all rfl) ?_
  show am_Wp _ 167 987 _ _ _ _
  refine wp_step (e := (.dup, 1, 0, 0, 0)) (q := (988, [.ref 205], [.ref 230, .ref 230, .ref 205], hO nS xs lg_559)) (am_cF_to (by with_unfolding_all rfl)) rfl (by with_unfolding_all rfl) ?_
  show am_Wp _ 167 988 _ _ _ _
  refine wp_step (e := (.iconst 2, 1, 0, 0, 0)) (q := (989, [.ref 205], [.int 2, .ref 230, .ref 230, .ref 205], hO nS xs lg_559)) (am_cF_to (by with_unfolding_all rfl)) rfl (by with_unfolding_all rfl) ?_
  show am_Wp _ 167 989 _ _ _ _
  refine wp_step (e := (.iconst 5, 1, 0, 0, 0)) (q := (990, [.ref 205], [.int 5, .int 2, .ref 230, .ref 230, .ref 205], hO nS xs lg_559)) (am_cF_to (by with_unfolding_all rfl)) rfl (by with_unfolding_all rfl) ?_
  show am_Wp _ 167 990 _ _ _ _
  refine wp_step (e := (.iastore, 1, 0, 0, 0)) (q := (991, [.ref 205], [.ref 230, .ref 205], hO nS xs lg_560)) (am_cF_to (by with_unfolding_all rfl)) rfl (by with_unfolding_all rfl) ?_
  show am_Wp _ 167 991 _ _ _ _
  refine wp_step (e := (.dup, 1, 0, 0, 0)) (q := (992, [.ref 205], [.ref 230, .ref 230, .ref 205], hO nS xs lg_560)) (am_cF_to (by with_unfolding_all rfl)) rfl (by with_unfolding_all rfl) ?_
  show am_Wp _ 167 992 _ _ _ _
  refine wp_step (e := (.iconst 3, 1, 0, 0, 0)) (q := (993, [.ref 205], [.int 3, .ref 230, .ref 230, .ref 205], hO nS xs lg_560)) (am_cF_to (by with_unfolding_all rfl)) rfl (by with_unfolding_all rfl) ?_
  show am_Wp _ 167 993 _ _ _ _
  refine wp_step (e := (.iconst 5, 1, 0, 0, 0)) (q := (994, [.ref 205], [.int 5, .int 3, .ref 230, .ref 230, .ref 205], hO nS xs lg_560)) (am_cF_to (by with_unfolding_all rfl)) rfl (by with_unfolding_all rfl) ?_
  show am_Wp _ 167 994 _ _ _ _
  refine wp_step (e := (.iastore, 1, 0, 0, 0)) (q := (995, [.ref 205], [.ref 230, .ref 205], hO nS xs lg_561)) (am_cF_to (by with_unfolding_all rfl)) rfl (by with_unfolding_all rfl) ?_
  show am_Wp _ 167 995 _ _ _ _
  refine wp_step (e := (.dup, 1, 0, 0, 0)) (q := (996, [.ref 205], [.ref 230, .ref 230, .ref 205], hO nS xs lg_561)) (am_cF_to (by with_unfolding_all rfl)) rfl (by with_unfolding_all rfl) ?_
  show am_Wp _ 167 996 _ _ _ _
  refine wp_step (e := (.iconst 4, 1, 0, 0, 0)) (q := (997, [.ref 205], [.int 4, .ref 230, .ref 230, .ref 205], hO nS xs lg_561)) (am_cF_to (by with_unfolding_all rfl)) rfl (by with_unfolding_all rfl) ?_
  show am_Wp _ 167 997 _ _ _ _
  refine wp_step (e := (.iconst 4, 1, 0, 0, 0)) (q := (998, [.ref 205], [.int 4, .int 4, .ref 230, .ref 230, .ref 205], hO nS xs lg_561)) (am_cF_to (by with_unfolding_all rfl)) rfl (by with_unfolding_all rfl) ?_
  show am_Wp _ 167 998 _ _ _ _
  refine wp_step (e := (.iastore, 1, 0, 0, 0)) (q := (999, [.ref 205], [.ref 230, .ref 205], hO nS xs lg_562)) (am_cF_to (by with_unfolding_all rfl)) rfl (by with_unfolding_all rfl) ?_
  show am_Wp _ 167 999 _ _ _ _
  refine wp_step (e := (.dup, 1, 0, 0, 0)) (q := (1000, [.ref 205], [.ref 230, .ref 230, .ref 205], hO nS xs lg_562)) (am_cF_to (by with_unfolding_all rfl)) rfl (by with_unfolding_all rfl) ?_
  show am_Wp _ 167 1000 _ _ _ _
  refine wp_step (e := (.iconst 5, 1, 0, 0, 0)) (q := (1001, [.ref 205], [.int 5, .ref 230, .ref 230, .ref 205], hO nS xs lg_562)) (am_cF_to (by with_unfolding_all rfl)) rfl (by with_unfolding_all rfl) ?_
  show am_Wp _ 167 1001 _ _ _ _
  refine wp_step (e := (.iconst 5, 1, 0, 0, 0)) (q := (1002, [.ref 205], [.int 5, .int 5, .ref 230, .ref 230, .ref 205], hO nS xs lg_562)) (am_cF_to (by with_unfolding_all rfl)) rfl (by with_unfolding_all rfl) ?_
  show am_Wp _ 167 1002 _ _ _ _
  refine wp_step (e := (.iastore, 1, 0, 0, 0)) (q := (1003, [.ref 205], [.ref 230, .ref 205], hO nS xs lg_563)) (am_cF_to (by with_unfolding_all rfl)) rfl (by with_unfolding_all rfl) ?_
  show am_Wp _ 167 1003 _ _ _ _
  refine wp_step (e := (.dup, 1, 0, 0, 0)) (q := (1004, [.ref 205], [.ref 230, .ref 230, .ref 205], hO nS xs lg_563)) (am_cF_to (by with_unfolding_all rfl)) rfl (by with_unfolding_all rfl) ?_
  show am_Wp _ 167 1004 _ _ _ _
  refine wp_step (e := (.bipush 6, 2, 0, 0, 0)) (q := (1006, [.ref 205], [.int 6, .ref 230, .ref 230, .ref 205], hO nS xs lg_563)) (am_cF_to (by with_unfolding_all rfl)) rfl (by with_unfolding_all rfl) ?_
  show am_Wp _ 167 1006 _ _ _ _
  refine wp_step (e := (.bipush 6, 2, 0, 0, 0)) (q := (1008, [.ref 205], [.int 6, .int 6, .ref 230, .ref 230, .ref 205], hO nS xs lg_563)) (am_cF_to (by with_unfolding_all rfl)) rfl (by with_unfolding_all rfl) ?_
  show am_Wp _ 167 1008 _ _ _ _
  refine wp_step (e := (.iastore, 1, 0, 0, 0)) (q := (1009, [.ref 205], [.ref 230, .ref 205], hO nS xs lg_564)) (am_cF_to (by with_unfolding_all rfl)) rfl (by with_unfolding_all rfl) ?_
  show am_Wp _ 167 1009 _ _ _ _
  refine wp_step (e := (.dup, 1, 0, 0, 0)) (q := (1010, [.ref 205], [.ref 230, .ref 230, .ref 205], hO nS xs lg_564)) (am_cF_to (by with_unfolding_all rfl)) rfl (by with_unfolding_all rfl) ?_
  show am_Wp _ 167 1010 _ _ _ _
  refine wp_step (e := (.bipush 7, 2, 0, 0, 0)) (q := (1012, [.ref 205], [.int 7, .ref 230, .ref 230, .ref 205], hO nS xs lg_564)) (am_cF_to (by with_unfolding_all rfl)) rfl (by with_unfolding_all rfl) ?_
  show am_Wp _ 167 1012 _ _ _ _
  refine wp_step (e := (.iconst 3, 1, 0, 0, 0)) (q := (1013, [.ref 205], [.int 3, .int 7, .ref 230, .ref 230, .ref 205], hO nS xs lg_564)) (am_cF_to (by with_unfolding_all rfl)) rfl (by with_unfolding_all rfl) ?_
  show am_Wp _ 167 1013 _ _ _ _
  refine wp_step (e := (.iastore, 1, 0, 0, 0)) (q := (1014, [.ref 205], [.ref 230, .ref 205], hO nS xs lg_565)) (am_cF_to (by with_unfolding_all rfl)) rfl (by with_unfolding_all rfl) ?_
  show am_Wp _ 167 1014 _ _ _ _
  refine wp_step (e := (.dup, 1, 0, 0, 0)) (q := (1015, [.ref 205], [.ref 230, .ref 230, .ref 205], hO nS xs lg_565)) (am_cF_to (by with_unfolding_all rfl)) rfl (by with_unfolding_all rfl) ?_
  show am_Wp _ 167 1015 _ _ _ _
  refine wp_step (e := (.bipush 8, 2, 0, 0, 0)) (q := (1017, [.ref 205], [.int 8, .ref 230, .ref 230, .ref 205], hO nS xs lg_565)) (am_cF_to (by with_unfolding_all rfl)) rfl (by with_unfolding_all rfl) ?_
  show am_Wp _ 167 1017 _ _ _ _
  refine wp_step (e := (.bipush 7, 2, 0, 0, 0)) (q := (1019, [.ref 205], [.int 7, .int 8, .ref 230, .ref 230, .ref 205], hO nS xs lg_565)) (am_cF_to (by with_unfolding_all rfl)) rfl (by with_unfolding_all rfl) ?_
  show am_Wp _ 167 1019 _ _ _ _
  refine wp_step (e := (.iastore, 1, 0, 0, 0)) (q := (1020, [.ref 205], [.ref 230, .ref 205], hO nS xs lg_566)) (am_cF_to (by with_unfolding_all rfl)) rfl (by with_unfolding_all rfl) ?_
  show am_Wp _ 167 1020 _ _ _ _
  refine wp_step (e := (.dup, 1, 0, 0, 0)) (q := (1021, [.ref 205], [.ref 230, .ref 230, .ref 205], hO nS xs lg_566)) (am_cF_to (by with_unfolding_all rfl)) rfl (by with_unfolding_all rfl) ?_
  show am_Wp _ 167 1021 _ _ _ _
  refine wp_step (e := (.bipush 9, 2, 0, 0, 0)) (q := (1023, [.ref 205], [.int 9, .ref 230, .ref 230, .ref 205], hO nS xs lg_566)) (am_cF_to (by with_unfolding_all rfl)) rfl (by with_unfolding_all rfl) ?_
  show am_Wp _ 167 1023 _ _ _ _
  refine wp_step (e := (.bipush 6, 2, 0, 0, 0)) (q := (1025, [.ref 205], [.int 6, .int 9, .ref 230, .ref 230, .ref 205], hO nS xs lg_566)) (am_cF_to (by with_unfolding_all rfl)) rfl (by with_unfolding_all rfl) ?_
  show am_Wp _ 167 1025 _ _ _ _
  refine wp_step (e := (.iastore, 1, 0, 0, 0)) (q := (1026, [.ref 205], [.ref 230, .ref 205], hO nS xs lg_567)) (am_cF_to (by with_unfolding_all rfl)) rfl (by with_unfolding_all rfl) ?_
  show am_Wp _ 167 1026 _ _ _ _
  refine wp_step (e := (.putfield 86, 3, 11, 49, 166)) (q := (1029, [.ref 205], [], hO nS xs lg_568)) (am_cF_to (by with_unfolding_all rfl)) rfl (by with_unfolding_all rfl) ?_
  show am_Wp _ 167 1029 _ _ _ _
  refine wp_step (e := (.aload_n 0, 1, 0, 0, 0)) (q := (1030, [.ref 205], [.ref 205], hO nS xs lg_568)) (am_cF_to (by with_unfolding_all rfl)) rfl (by with_unfolding_all rfl) ?_
  show am_Wp _ 167 1030 _ _ _ _
  refine wp_step (e := (.bipush 28, 2, 0, 0, 0)) (q := (1032, [.ref 205], [.int 28, .ref 205], hO nS xs lg_568)) (am_cF_to (by with_unfolding_all rfl)) rfl (by with_unfolding_all rfl) ?_
  show am_Wp _ 167 1032 _ _ _ _
  refine wp_step (e := (.newarray .int, 2, 0, 0, 0)) (q := (1034, [.ref 205], [.ref 231, .ref 205], hO nS xs lg_569)) (am_cF_to (by with_unfolding_all rfl)) rfl (by with_unfolding_all rfl) ?_
  show am_Wp _ 167 1034 _ _ _ _
  refine wp_step (e := (.dup, 1, 0, 0, 0)) (q := (1035, [.ref 205], [.ref 231, .ref 231, .ref 205], hO nS xs lg_569)) (am_cF_to (by with_unfolding_all rfl)) rfl (by with_unfolding_all rfl) ?_
  show am_Wp _ 167 1035 _ _ _ _
  refine wp_step (e := (.iconst 0, 1, 0, 0, 0)) (q := (1036, [.ref 205], [.int 0, .ref 231, .ref 231, .ref 205], hO nS xs lg_569)) (am_cF_to (by with_unfolding_all rfl)) rfl (by with_unfolding_all rfl) ?_
  show am_Wp _ 167 1036 _ _ _ _
  refine wp_step (e := (.iconst 4, 1, 0, 0, 0)) (q := (1037, [.ref 205], [.int 4, .int 0, .ref 231, .ref 231, .ref 205], hO nS xs lg_569)) (am_cF_to (by with_unfolding_all rfl)) rfl (by with_unfolding_all rfl) ?_
  show am_Wp _ 167 1037 _ _ _ _
  refine wp_step (e := (.iastore, 1, 0, 0, 0)) (q := (1038, [.ref 205], [.ref 231, .ref 205], hO nS xs lg_570)) (am_cF_to (by with_unfolding_all rfl)) rfl (by with_unfolding_all rfl) ?_
  show am_Wp _ 167 1038 _ _ _ _
  refine wp_step (e := (.dup, 1, 0, 0, 0)) (q := (1039, [.ref 205], [.ref 231, .ref 231, .ref 205], hO nS xs lg_570)) (am_cF_to (by with_unfolding_all rfl)) rfl (by with_unfolding_all rfl) ?_
  show am_Wp _ 167 1039 _ _ _ _
  refine wp_step (e := (.iconst 1, 1, 0, 0, 0)) (q := (1040, [.ref 205], [.int 1, .ref 231, .ref 231, .ref 205], hO nS xs lg_570)) (am_cF_to (by with_unfolding_all rfl)) rfl (by with_unfolding_all rfl) ?_
  show am_Wp _ 167 1040 _ _ _ _
  refine wp_step (e := (.iconst 3, 1, 0, 0, 0)) (q := (1041, [.ref 205], [.int 3, .int 1, .ref 231, .ref 231, .ref 205], hO nS xs lg_570)) (am_cF_to (by with_unfolding_all rfl)) rfl (by with_unfolding_all rfl) ?_
  show am_Wp _ 167 1041 _ _ _ _
  refine wp_step (e := (.iastore, 1, 0, 0, 0)) (q := (1042, [.ref 205], [.ref 231, .ref 205], hO nS xs lg_571)) (am_cF_to (by with_unfolding_all rfl)) rfl (by with_unfolding_all rfl) ?_
  show am_Wp _ 167 1042 _ _ _ _
  refine wp_step (e := (.dup, 1, 0, 0, 0)) (q := (1043, [.ref 205], [.ref 231, .ref 231, .ref 205], hO nS xs lg_571)) (am_cF_to (by with_unfolding_all rfl)) rfl (by with_unfolding_all rfl) ?_
  show am_Wp _ 167 1043 _ _ _ _
  refine wp_step (e := (.iconst 2, 1, 0, 0, 0)) (q := (1044, [.ref 205], [.int 2, .ref 231, .ref 231, .ref 205], hO nS xs lg_571)) (am_cF_to (by with_unfolding_all rfl)) rfl (by with_unfolding_all rfl) ?_
  show am_Wp _ 167 1044 _ _ _ _
  refine wp_step (e := (.iconst 3, 1, 0, 0, 0)) (q := (1045, [.ref 205], [.int 3, .int 2, .ref 231, .ref 231, .ref 205], hO nS xs lg_571)) (am_cF_to (by with_unfolding_all rfl)) rfl (by with_unfolding_all rfl) ?_
  show am_Wp _ 167 1045 _ _ _ _
  refine wp_step (e := (.iastore, 1, 0, 0, 0)) (q := (1046, [.ref 205], [.ref 231, .ref 205], hO nS xs lg_572)) (am_cF_to (by with_unfolding_all rfl)) rfl (by with_unfolding_all rfl) ?_
  show am_Wp _ 167 1046 _ _ _ _
  refine wp_step (e := (.dup, 1, 0, 0, 0)) (q := (1047, [.ref 205], [.ref 231, .ref 231, .ref 205], hO nS xs lg_572)) (am_cF_to (by with_unfolding_all rfl)) rfl (by with_unfolding_all rfl) ?_
  show am_Wp _ 167 1047 _ _ _ _
  refine wp_step (e := (.iconst 3, 1, 0, 0, 0)) (q := (1048, [.ref 205], [.int 3, .ref 231, .ref 231, .ref 205], hO nS xs lg_572)) (am_cF_to (by with_unfolding_all rfl)) rfl (by with_unfolding_all rfl) ?_
  show am_Wp _ 167 1048 _ _ _ _
  refine wp_step (e := (.iconst 5, 1, 0, 0, 0)) (q := (1049, [.ref 205], [.int 5, .int 3, .ref 231, .ref 231, .ref 205], hO nS xs lg_572)) (am_cF_to (by with_unfolding_all rfl)) rfl (by with_unfolding_all rfl) ?_
  show am_Wp _ 167 1049 _ _ _ _
  refine wp_step (e := (.iastore, 1, 0, 0, 0)) (q := (1050, [.ref 205], [.ref 231, .ref 205], hO nS xs lg_573)) (am_cF_to (by with_unfolding_all rfl)) rfl (by with_unfolding_all rfl) ?_
  show am_Wp _ 167 1050 _ _ _ _
  refine wp_step (e := (.dup, 1, 0, 0, 0)) (q := (1051, [.ref 205], [.ref 231, .ref 231, .ref 205], hO nS xs lg_573)) (am_cF_to (by with_unfolding_all rfl)) rfl (by with_unfolding_all rfl) ?_
  show am_Wp _ 167 1051 _ _ _ _
  refine wp_step (e := (.iconst 4, 1, 0, 0, 0)) (q := (1052, [.ref 205], [.int 4, .ref 231, .ref 231, .ref 205], hO nS xs lg_573)) (am_cF_to (by with_unfolding_all rfl)) rfl (by with_unfolding_all rfl) ?_
  show am_Wp _ 167 1052 _ _ _ _
  refine wp_step (e := (.iconst 4, 1, 0, 0, 0)) (q := (1053, [.ref 205], [.int 4, .int 4, .ref 231, .ref 231, .ref 205], hO nS xs lg_573)) (am_cF_to (by with_unfolding_all rfl)) rfl (by with_unfolding_all rfl) ?_
  show am_Wp _ 167 1053 _ _ _ _
  refine wp_step (e := (.iastore, 1, 0, 0, 0)) (q := (1054, [.ref 205], [.ref 231, .ref 205], hO nS xs lg_574)) (am_cF_to (by with_unfolding_all rfl)) rfl (by with_unfolding_all rfl) ?_
  show am_Wp _ 167 1054 _ _ _ _
  refine wp_step (e := (.dup, 1, 0, 0, 0)) (q := (1055, [.ref 205], [.ref 231, .ref 231, .ref 205], hO nS xs lg_574)) (am_cF_to (by with_unfolding_all rfl)) rfl (by with_unfolding_all rfl) ?_
  show am_Wp _ 167 1055 _ _ _ _
  refine wp_step (e := (.iconst 5, 1, 0, 0, 0)) (q := (1056, [.ref 205], [.int 5, .ref 231, .ref 231, .ref 205], hO nS xs lg_574)) (am_cF_to (by with_unfolding_all rfl)) rfl (by with_unfolding_all rfl) ?_
  show am_Wp _ 167 1056 _ _ _ _
  refine wp_step (e := (.iconst 4, 1, 0, 0, 0)) (q := (1057, [.ref 205], [.int 4, .int 5, .ref 231, .ref 231, .ref 205], hO nS xs lg_574)) (am_cF_to (by with_unfolding_all rfl)) rfl (by with_unfolding_all rfl) ?_
  show am_Wp _ 167 1057 _ _ _ _
  refine wp_step (e := (.iastore, 1, 0, 0, 0)) (q := (1058, [.ref 205], [.ref 231, .ref 205], hO nS xs lg_575)) (am_cF_to (by with_unfolding_all rfl)) rfl (by with_unfolding_all rfl) ?_
  show am_Wp _ 167 1058 _ _ _ _
  refine wp_step (e := (.dup, 1, 0, 0, 0)) (q := (1059, [.ref 205], [.ref 231, .ref 231, .ref 205], hO nS xs lg_575)) (am_cF_to (by with_unfolding_all rfl)) rfl (by with_unfolding_all rfl) ?_
  show am_Wp _ 167 1059 _ _ _ _
  refine wp_step (e := (.bipush 6, 2, 0, 0, 0)) (q := (1061, [.ref 205], [.int 6, .ref 231, .ref 231, .ref 205], hO nS xs lg_575)) (am_cF_to (by with_unfolding_all rfl)) rfl (by with_unfolding_all rfl) ?_
  show am_Wp _ 167 1061 _ _ _ _
  refine wp_step (e := (.iconst 3, 1, 0, 0, 0)) (q := (1062, [.ref 205], [.int 3, .int 6, .ref 231, .ref 231, .ref 205], hO nS xs lg_575)) (am_cF_to (by with_unfolding_all rfl)) rfl (by with_unfolding_all rfl) ?_
  show am_Wp _ 167 1062 _ _ _ _
  refine wp_step (e := (.iastore, 1, 0, 0, 0)) (q := (1063, [.ref 205], [.ref 231, .ref 205], hO nS xs lg_576)) (am_cF_to (by with_unfolding_all rfl)) rfl (by with_unfolding_all rfl) ?_
  show am_Wp _ 167 1063 _ _ _ _
  refine wp_step (e := (.dup, 1, 0, 0, 0)) (q := (1064, [.ref 205], [.ref 231, .ref 231, .ref 205], hO nS xs lg_576)) (am_cF_to (by with_unfolding_all rfl)) rfl (by with_unfolding_all rfl) ?_
  show am_Wp _ 167 1064 _ _ _ _
  refine wp_step (e := (.bipush 7, 2, 0, 0, 0)) (q := (1066, [.ref 205], [.int 7, .ref 231, .ref 231, .ref 205], hO nS xs lg_576)) (am_cF_to (by with_unfolding_all rfl)) rfl (by with_unfolding_all rfl) ?_
  show am_Wp _ 167 1066 _ _ _ _
  refine wp_step (e := (.iconst 5, 1, 0, 0, 0)) (q := (1067, [.ref 205], [.int 5, .int 7, .ref 231, .ref 231, .ref 205], hO nS xs lg_576)) (am_cF_to (by with_unfolding_all rfl)) rfl (by with_unfolding_all rfl) ?_
  show am_Wp _ 167 1067 _ _ _ _
  refine wp_step (e := (.iastore, 1, 0, 0, 0)) (q := (1068, [.ref 205], [.ref 231, .ref 205], hO nS xs lg_577)) (am_cF_to (by with_unfolding_all rfl)) rfl (by with_unfolding_all rfl) ?_
  show am_Wp _ 167 1068 _ _ _ _
  refine wp_step (e := (.dup, 1, 0, 0, 0)) (q := (1069, [.ref 205], [.ref 231, .ref 231, .ref 205], hO nS xs lg_577)) (am_cF_to (by with_unfolding_all rfl)) rfl (by with_unfolding_all rfl) ?_
  show am_Wp _ 167 1069 _ _ _ _
  refine wp_step (e := (.bipush 8, 2, 0, 0, 0)) (q := (1071, [.ref 205], [.int 8, .ref 231, .ref 231, .ref 205], hO nS xs lg_577)) (am_cF_to (by with_unfolding_all rfl)) rfl (by with_unfolding_all rfl) ?_
  show am_Wp _ 167 1071 _ _ _ _
  refine wp_step (e := (.iconst 5, 1, 0, 0, 0)) (q := (1072, [.ref 205], [.int 5, .int 8, .ref 231, .ref 231, .ref 205], hO nS xs lg_577)) (am_cF_to (by with_unfolding_all rfl)) rfl (by with_unfolding_all rfl) ?_
  show am_Wp _ 167 1072 _ _ _ _
  refine wp_step (e := (.iastore, 1, 0, 0, 0)) (q := (1073, [.ref 205], [.ref 231, .ref 205], hO nS xs lg_578)) (am_cF_to (by with_unfolding_all rfl)) rfl (by with_unfolding_all rfl) ?_
  show am_Wp _ 167 1073 _ _ _ _
  refine wp_step (e := (.dup, 1, 0, 0, 0)) (q := (1074, [.ref 205], [.ref 231, .ref 231, .ref 205], hO nS xs lg_578)) (am_cF_to (by with_unfolding_all rfl)) rfl (by with_unfolding_all rfl) ?_
  show am_Wp _ 167 1074 _ _ _ _
  refine wp_step (e := (.bipush 9, 2, 0, 0, 0)) (q := (1076, [.ref 205], [.int 9, .ref 231, .ref 231, .ref 205], hO nS xs lg_578)) (am_cF_to (by with_unfolding_all rfl)) rfl (by with_unfolding_all rfl) ?_
  show am_Wp _ 167 1076 _ _ _ _
  refine wp_step (e := (.iconst 4, 1, 0, 0, 0)) (q := (1077, [.ref 205], [.int 4, .int 9, .ref 231, .ref 231, .ref 205], hO nS xs lg_578)) (am_cF_to (by with_unfolding_all rfl)) rfl (by with_unfolding_all rfl) ?_
  show am_Wp _ 167 1077 _ _ _ _
  refine wp_step (e := (.iastore, 1, 0, 0, 0)) (q := (1078, [.ref 205], [.ref 231, .ref 205], hO nS xs lg_579)) (am_cF_to (by with_unfolding_all rfl)) rfl (by with_unfolding_all rfl) ?_
  show am_Wp _ 167 1078 _ _ _ _
  refine wp_step (e := (.dup, 1, 0, 0, 0)) (q := (1079, [.ref 205], [.ref 231, .ref 231, .ref 205], hO nS xs lg_579)) (am_cF_to (by with_unfolding_all rfl)) rfl (by with_unfolding_all rfl) ?_
  show am_Wp _ 167 1079 _ _ _ _
  refine wp_step (e := (.bipush 10, 2, 0, 0, 0)) (q := (1081, [.ref 205], [.int 10, .ref 231, .ref 231, .ref 205], hO nS xs lg_579)) (am_cF_to (by with_unfolding_all rfl)) rfl (by with_unfolding_all rfl) ?_
  show am_Wp _ 167 1081 _ _ _ _
  refine wp_step (e := (.iconst 3, 1, 0, 0, 0)) (q := (1082, [.ref 205], [.int 3, .int 10, .ref 231, .ref 231, .ref 205], hO nS xs lg_579)) (am_cF_to (by with_unfolding_all rfl)) rfl (by with_unfolding_all rfl) ?_
  show am_Wp _ 167 1082 _ _ _ _
  refine wp_step (e := (.iastore, 1, 0, 0, 0)) (q := (1083, [.ref 205], [.ref 231, .ref 205], hO nS xs lg_580)) (am_cF_to (by with_unfolding_all rfl)) rfl (by with_unfolding_all rfl) ?_
  show am_Wp _ 167 1083 _ _ _ _
  refine wp_step (e := (.dup, 1, 0, 0, 0)) (q := (1084, [.ref 205], [.ref 231, .ref 231, .ref 205], hO nS xs lg_580)) (am_cF_to (by with_unfolding_all rfl)) rfl (by with_unfolding_all rfl) ?_
  show am_Wp _ 167 1084 _ _ _ _
  refine wp_step (e := (.bipush 11, 2, 0, 0, 0)) (q := (1086, [.ref 205], [.int 11, .ref 231, .ref 231, .ref 205], hO nS xs lg_580)) (am_cF_to (by with_unfolding_all rfl)) rfl (by with_unfolding_all rfl) ?_
  show am_Wp _ 167 1086 _ _ _ _
  refine wp_step (e := (.bipush 6, 2, 0, 0, 0)) (q := (1088, [.ref 205], [.int 6, .int 11, .ref 231, .ref 231, .ref 205], hO nS xs lg_580)) (am_cF_to (by with_unfolding_all rfl)) rfl (by with_unfolding_all rfl) ?_
  show am_Wp _ 167 1088 _ _ _ _
  refine wp_step (e := (.iastore, 1, 0, 0, 0)) (q := (1089, [.ref 205], [.ref 231, .ref 205], hO nS xs lg_581)) (am_cF_to (by with_unfolding_all rfl)) rfl (by with_unfolding_all rfl) ?_
  show am_Wp _ 167 1089 _ _ _ _
  refine wp_step (e := (.dup, 1, 0, 0, 0)) (q := (1090, [.ref 205], [.ref 231, .ref 231, .ref 205], hO nS xs lg_581)) (am_cF_to (by with_unfolding_all rfl)) rfl (by with_unfolding_all rfl) ?_
  show am_Wp _ 167 1090 _ _ _ _
  refine wp_step (e := (.bipush 12, 2, 0, 0, 0)) (q := (1092, [.ref 205], [.int 12, .ref 231, .ref 231, .ref 205], hO nS xs lg_581)) (am_cF_to (by with_unfolding_all rfl)) rfl (by with_unfolding_all rfl) ?_
  show am_Wp _ 167 1092 _ _ _ _
  refine wp_step (e := (.bipush 6, 2, 0, 0, 0)) (q := (1094, [.ref 205], [.int 6, .int 12, .ref 231, .ref 231, .ref 205], hO nS xs lg_581)) (am_cF_to (by with_unfolding_all rfl)) rfl (by with_unfolding_all rfl) ?_
  show am_Wp _ 167 1094 _ _ _ _
  refine wp_step (e := (.iastore, 1, 0, 0, 0)) (q := (1095, [.ref 205], [.ref 231, .ref 205], hO nS xs lg_582)) (am_cF_to (by with_unfolding_all rfl)) rfl (by with_unfolding_all rfl) ?_
  show am_Wp _ 167 1095 _ _ _ _
  refine wp_step (e := (.dup, 1, 0, 0, 0)) (q := (1096, [.ref 205], [.ref 231, .ref 231, .ref 205], hO nS xs lg_582)) (am_cF_to (by with_unfolding_all rfl)) rfl (by with_unfolding_all rfl) ?_
  show am_Wp _ 167 1096 _ _ _ _
  refine wp_step (e := (.bipush 13, 2, 0, 0, 0)) (q := (1098, [.ref 205], [.int 13, .ref 231, .ref 231, .ref 205], hO nS xs lg_582)) (am_cF_to (by with_unfolding_all rfl)) rfl (by with_unfolding_all rfl) ?_
  show am_Wp _ 167 1098 _ _ _ _
  refine wp_step (e := (.bipush 8, 2, 0, 0, 0)) (q := (1100, [.ref 205], [.int 8, .int 13, .ref 231, .ref 231, .ref 205], hO nS xs lg_582)) (am_cF_to (by with_unfolding_all rfl)) rfl (by with_unfolding_all rfl) ?_
  show am_Wp _ 167 1100 _ _ _ _
  refine wp_step (e := (.iastore, 1, 0, 0, 0)) (q := (1101, [.ref 205], [.ref 231, .ref 205], hO nS xs lg_583)) (am_cF_to (by with_unfolding_all rfl)) rfl (by with_unfolding_all rfl) ?_
  show am_Wp _ 167 1101 _ _ _ _
  refine wp_step (e := (.dup, 1, 0, 0, 0)) (q := (1102, [.ref 205], [.ref 231, .ref 231, .ref 205], hO nS xs lg_583)) (am_cF_to (by with_unfolding_all rfl)) rfl (by with_unfolding_all rfl) ?_
  show am_Wp _ 167 1102 _ _ _ _
  refine wp_step (e := (.bipush 14, 2, 0, 0, 0)) (q := (1104, [.ref 205], [.int 14, .ref 231, .ref 231, .ref 205], hO nS xs lg_583)) (am_cF_to (by with_unfolding_all rfl)) rfl (by with_unfolding_all rfl) ?_
  show am_Wp _ 167 1104 _ _ _ _
  refine wp_step (e := (.bipush 8, 2, 0, 0, 0)) (q := (1106, [.ref 205], [.int 8, .int 14, .ref 231, .ref 231, .ref 205], hO nS xs lg_583)) (am_cF_to (by with_unfolding_all rfl)) rfl (by with_unfolding_all rfl) ?_
  show am_Wp _ 167 1106 _ _ _ _
  refine wp_step (e := (.iastore, 1, 0, 0, 0)) (q := (1107, [.ref 205], [.ref 231, .ref 205], hO nS xs lg_584)) (am_cF_to (by with_unfolding_all rfl)) rfl (by with_unfolding_all rfl) ?_
  show am_Wp _ 167 1107 _ _ _ _
  refine wp_step (e := (.dup, 1, 0, 0, 0)) (q := (1108, [.ref 205], [.ref 231, .ref 231, .ref 205], hO nS xs lg_584)) (am_cF_to (by with_unfolding_all rfl)) rfl (by with_unfolding_all rfl) ?_
  show am_Wp _ 167 1108 _ _ _ _
  refine wp_step (e := (.bipush 15, 2, 0, 0, 0)) (q := (1110, [.ref 205], [.int 15, .ref 231, .ref 231, .ref 205], hO nS xs lg_584)) (am_cF_to (by with_unfolding_all rfl)) rfl (by with_unfolding_all rfl) ?_
  show am_Wp _ 167 1110 _ _ _ _
  refine wp_step (e := (.bipush 7, 2, 0, 0, 0)) (q := (1112, [.ref 205], [.int 7, .int 15, .ref 231, .ref 231, .ref 205], hO nS xs lg_584)) (am_cF_to (by with_unfolding_all rfl)) rfl (by with_unfolding_all rfl) ?_
  show am_Wp _ 167 1112 _ _ _ _
  refine wp_step (e := (.iastore, 1, 0, 0, 0)) (q := (1113, [.ref 205], [.ref 231, .ref 205], hO nS xs lg_585)) (am_cF_to (by with_unfolding_all rfl)) rfl (by with_unfolding_all rfl) ?_
  show am_Wp _ 167 1113 _ _ _ _
  refine wp_step (e := (.dup, 1, 0, 0, 0)) (q := (1114, [.ref 205], [.ref 231, .ref 231, .ref 205], hO nS xs lg_585)) (am_cF_to (by with_unfolding_all rfl)) rfl (by with_unfolding_all rfl) ?_
  show am_Wp _ 167 1114 _ _ _ _
  refine wp_step (e := (.bipush 16, 2, 0, 0, 0)) (q := (1116, [.ref 205], [.int 16, .ref 231, .ref 231, .ref 205], hO nS xs lg_585)) (am_cF_to (by with_unfolding_all rfl)) rfl (by with_unfolding_all rfl) ?_
  show am_Wp _ 167 1116 _ _ _ _
  refine wp_step (e := (.bipush 7, 2, 0, 0, 0)) (q := (1118, [.ref 205], [.int 7, .int 16, .ref 231, .ref 231, .ref 205], hO nS xs lg_585)) (am_cF_to (by with_unfolding_all rfl)) rfl (by with_unfolding_all rfl) ?_
  show am_Wp _ 167 1118 _ _ _ _
  refine wp_step (e := (.iastore, 1, 0, 0, 0)) (q := (1119, [.ref 205], [.ref 231, .ref 205], hO nS xs lg_586)) (am_cF_to (by with_unfolding_all rfl)) rfl (by with_unfolding_all rfl) ?_
  show am_Wp _ 167 1119 _ _ _ _
  refine wp_step (e := (.dup, 1, 0, 0, 0)) (q := (1120, [.ref 205], [.ref 231, .ref 231, .ref 205], hO nS xs lg_586)) (am_cF_to (by with_unfolding_all rfl)) rfl (by with_unfolding_all rfl) ?_
  show am_Wp _ 167 1120 _ _ _ _
  refine wp_step (e := (.bipush 17, 2, 0, 0, 0)) (q := (1122, [.ref 205], [.int 17, .ref 231, .ref 231, .ref 205], hO nS xs lg_586)) (am_cF_to (by with_unfolding_all rfl)) rfl (by with_unfolding_all rfl) ?_
  show am_Wp _ 167 1122 _ _ _ _
  refine wp_step (e := (.bipush 9, 2, 0, 0, 0)) (q := (1124, [.ref 205], [.int 9, .int 17, .ref 231, .ref 231, .ref 205], hO nS xs lg_586)) (am_cF_to (by with_unfolding_all rfl)) rfl (by with_unfolding_all rfl) ?_
  show am_Wp _ 167 1124 _ _ _ _
  refine wp_step (e := (.iastore, 1, 0, 0, 0)) (q := (1125, [.ref 205], [.ref 231, .ref 205], hO nS xs lg_587)) (am_cF_to (by with_unfolding_all rfl)) rfl (by with_unfolding_all rfl) ?_
  show am_Wp _ 167 1125 _ _ _ _
  refine wp_step (e := (.dup, 1, 0, 0, 0)) (q := (1126, [.ref 205], [.ref 231, .ref 231, .ref 205], hO nS xs lg_587)) (am_cF_to (by with_unfolding_all rfl)) rfl (by with_unfolding_all rfl) ?_
  show am_Wp _ 167 1126 _ _ _ _
  refine wp_step (e := (.bipush 18, 2, 0, 0, 0)) (q := (1128, [.ref 205], [.int 18, .ref 231, .ref 231, .ref 205], hO nS xs lg_587)) (am_cF_to (by with_unfolding_all rfl)) rfl (by with_unfolding_all rfl) ?_
  show am_Wp _ 167 1128 _ _ _ _
  refine wp_step (e := (.bipush 8, 2, 0, 0, 0)) (q := (1130, [.ref 205], [.int 8, .int 18, .ref 231, .ref 231, .ref 205], hO nS xs lg_587)) (am_cF_to (by with_unfolding_all rfl)) rfl (by with_unfolding_all rfl) ?_
  show am_Wp _ 167 1130 _ _ _ _
  refine wp_step (e := (.iastore, 1, 0, 0, 0)) (q := (1131, [.ref 205], [.ref 231, .ref 205], hO nS xs lg_588)) (am_cF_to (by with_unfolding_all rfl)) rfl (by with_unfolding_all rfl) ?_
  show am_Wp _ 167 1131 _ _ _ _
  refine wp_step (e := (.dup, 1, 0, 0, 0)) (q := (1132, [.ref 205], [.ref 231, .ref 231, .ref 205], hO nS xs lg_588)) (am_cF_to (by with_unfolding_all rfl)) rfl (by with_unfolding_all rfl) ?_
  show am_Wp _ 167 1132 _ _ _ _
  refine wp_step (e := (.bipush 19, 2, 0, 0, 0)) (q := (1134, [.ref 205], [.int 19, .ref 231, .ref 231, .ref 205], hO nS xs lg_588)) (am_cF_to (by with_unfolding_all rfl)) rfl (by with_unfolding_all rfl) ?_
  show am_Wp _ 167 1134 _ _ _ _
  refine wp_step (e := (.bipush 8, 2, 0, 0, 0)) (q := (1136, [.ref 205], [.int 8, .int 19, .ref 231, .ref 231, .ref 205], hO nS xs lg_588)) (am_cF_to (by with_unfolding_all rfl)) rfl (by with_unfolding_all rfl) ?_
  show am_Wp _ 167 1136 _ _ _ _
  refine wp_step (e := (.iastore, 1, 0, 0, 0)) (q := (1137, [.ref 205], [.ref 231, .ref 205], hO nS xs lg_589)) (am_cF_to (by with_unfolding_all rfl)) rfl (by with_unfolding_all rfl) ?_
  show am_Wp _ 167 1137 _ _ _ _
  refine wp_step (e := (.dup, 1, 0, 0, 0)) (q := (1138, [.ref 205], [.ref 231, .ref 231, .ref 205], hO nS xs lg_589)) (am_cF_to (by with_unfolding_all rfl)) rfl (by with_unfolding_all rfl) ?_
  show am_Wp _ 167 1138 _ _ _ _
  refine wp_step (e := (.bipush 20, 2, 0, 0, 0)) (q := (1140, [.ref 205], [.int 20, .ref 231, .ref 231, .ref 205], hO nS xs lg_589)) (am_cF_to (by with_unfolding_all rfl)) rfl (by with_unfolding_all rfl) ?_
  show am_Wp _ 167 1140 _ _ _ _
  refine wp_step (e := (.bipush 6, 2, 0, 0, 0)) (q := (1142, [.ref 205], [.int 6, .int 20, .ref 231, .ref 231, .ref 205], hO nS xs lg_589)) (am_cF_to (by with_unfolding_all rfl)) rfl (by with_unfolding_all rfl) ?_
  show am_Wp _ 167 1142 _ _ _ _
  refine wp_step (e := (.iastore, 1, 0, 0, 0)) (q := (1143, [.ref 205], [.ref 231, .ref 205], hO nS xs lg_590)) (am_cF_to (by with_unfolding_all rfl)) rfl (by with_unfolding_all rfl) ?_
  show am_Wp _ 167 1143 _ _ _ _
  refine wp_step (e := (.dup, 1, 0, 0, 0)) (q := (1144, [.ref 205], [.ref 231, .ref 231, .ref 205], hO nS xs lg_590)) (am_cF_to (by with_unfolding_all rfl)) rfl (by with_unfolding_all rfl) ?_
  show am_Wp _ 167 1144 _ _ _ _
  refine wp_step (e := (.bipush 21, 2, 0, 0, 0)) (q := (1146, [.ref 205], [.int 21, .ref 231, .ref 231, .ref 205], hO nS xs lg_590)) (am_cF_to (by with_unfolding_all rfl)) rfl (by with_unfolding_all rfl) ?_
  show am_Wp _ 167 1146 _ _ _ _
  refine wp_step (e := (.bipush 6, 2, 0, 0, 0)) (q := (1148, [.ref 205], [.int 6, .int 21, .ref 231, .ref 231, .ref 205], hO nS xs lg_590)) (am_cF_to (by with_unfolding_all rfl)) rfl (by with_unfolding_all rfl) ?_
  show am_Wp _ 167 1148 _ _ _ _
  refine wp_step (e := (.iastore, 1, 0, 0, 0)) (q := (1149, [.ref 205], [.ref 231, .ref 205], hO nS xs lg_591)) (am_cF_to (by with_unfolding_all rfl)) rfl (by with_unfolding_all rfl) ?_
  show am_Wp _ 167 1149 _ _ _ _
  refine wp_step (e := (.dup, 1, 0, 0, 0)) (q := (1150, [.ref 205], [.ref 231, .ref 231, .ref 205], hO nS xs lg_591)) (am_cF_to (by with_unfolding_all rfl)) rfl (by with_unfolding_all rfl) ?_
  show am_Wp _ 167 1150 _ _ _ _
  refine wp_step (e := (.bipush 22, 2, 0, 0, 0)) (q := (1152, [.ref 205], [.int 22, .ref 231, .ref 231, .ref 205], hO nS xs lg_591)) (am_cF_to (by with_unfolding_all rfl)) rfl (by with_unfolding_all rfl) ?_
  show am_Wp _ 167 1152 _ _ _ _
  refine wp_step (e := (.iconst 5, 1, 0, 0, 0)) (q := (1153, [.ref 205], [.int 5, .int 22, .ref 231, .ref 231, .ref 205], hO nS xs lg_591)) (am_cF_to (by with_unfolding_all rfl)) rfl (by with_unfolding_all rfl) ?_
  show am_Wp _ 167 1153 _ _ _ _
  refine wp_step (e := (.iastore, 1, 0, 0, 0)) (q := (1154, [.ref 205], [.ref 231, .ref 205], hO nS xs lg_592)) (am_cF_to (by with_unfolding_all rfl)) rfl (by with_unfolding_all rfl) ?_
  show am_Wp _ 167 1154 _ _ _ _
  refine wp_step (e := (.dup, 1, 0, 0, 0)) (q := (1155, [.ref 205], [.ref 231, .ref 231, .ref 205], hO nS xs lg_592)) (am_cF_to (by with_unfolding_all rfl)) rfl (by with_unfolding_all rfl) ?_
  show am_Wp _ 167 1155 _ _ _ _
  refine wp_step (e := (.bipush 23, 2, 0, 0, 0)) (q := (1157, [.ref 205], [.int 23, .ref 231, .ref 231, .ref 205], hO nS xs lg_592)) (am_cF_to (by with_unfolding_all rfl)) rfl (by with_unfolding_all rfl) ?_
  show am_Wp _ 167 1157 _ _ _ _
  refine wp_step (e := (.iconst 5, 1, 0, 0, 0)) (q := (1158, [.ref 205], [.int 5, .int 23, .ref 231, .ref 231, .ref 205], hO nS xs lg_592)) (am_cF_to (by with_unfolding_all rfl)) rfl (by with_unfolding_all rfl) ?_
  show am_Wp _ 167 1158 _ _ _ _
  refine wp_step (e := (.iastore, 1, 0, 0, 0)) (q := (1159, [.ref 205], [.ref 231, .ref 205], hO nS xs lg_593)) (am_cF_to (by with_unfolding_all rfl)) rfl (by with_unfolding_all rfl) ?_
  show am_Wp _ 167 1159 _ _ _ _
  refine wp_step (e := (.dup, 1, 0, 0, 0)) (q := (1160, [.ref 205], [.ref 231, .ref 231, .ref 205], hO nS xs lg_593)) (am_cF_to (by with_unfolding_all rfl)) rfl (by with_unfolding_all rfl) ?_
  show am_Wp _ 167 1160 _ _ _ _
  refine wp_step (e := (.bipush 24, 2, 0, 0, 0)) (q := (1162, [.ref 205], [.int 24, .ref 231, .ref 231, .ref 205], hO nS xs lg_593)) (am_cF_to (by with_unfolding_all rfl)) rfl (by with_unfolding_all rfl) ?_
  show am_Wp _ 167 1162 _ _ _ _
  refine wp_step (e := (.iconst 5, 1, 0, 0, 0)) (q := (1163, [.ref 205], [.int 5, .int 24, .ref 231, .ref 231, .ref 205], hO nS xs lg_593)) (am_cF_to (by with_unfolding_all rfl)) rfl (by with_unfolding_all rfl) ?_
  show am_Wp _ 167 1163 _ _ _ _
  refine wp_step (e := (.iastore, 1, 0, 0, 0)) (q := (1164, [.ref 205], [.ref 231, .ref 205], hO nS xs lg_594)) (am_cF_to (by with_unfolding_all rfl)) rfl (by with_unfolding_all rfl) ?_
  show am_Wp _ 167 1164 _ _ _ _
  refine wp_step (e := (.dup, 1, 0, 0, 0)) (q := (1165, [.ref 205], [.ref 231, .ref 231, .ref 205], hO nS xs lg_594)) (am_cF_to (by with_unfolding_all rfl)) rfl (by with_unfolding_all rfl) ?_
  show am_Wp _ 167 1165 _ _ _ _
  refine wp_step (e := (.bipush 25, 2, 0, 0, 0)) (q := (1167, [.ref 205], [.int 25, .ref 231, .ref 231, .ref 205], hO nS xs lg_594)) (am_cF_to (by with_unfolding_all rfl)) rfl (by with_unfolding_all rfl) ?_
  show am_Wp _ 167 1167 _ _ _ _
  refine wp_step (e := (.bipush 7, 2, 0, 0, 0)) (q := (1169, [.ref 205], [.int 7, .int 25, .ref 231, .ref 231, .ref 205], hO nS xs lg_594)) (am_cF_to (by with_unfolding_all rfl)) rfl (by with_unfolding_all rfl) ?_
  show am_Wp _ 167 1169 _ _ _ _
  refine wp_step (e := (.iastore, 1, 0, 0, 0)) (q := (1170, [.ref 205], [.ref 231, .ref 205], hO nS xs lg_595)) (am_cF_to (by with_unfolding_all rfl)) rfl (by with_unfolding_all rfl) ?_
  show am_Wp _ 167 1170 _ _ _ _
  refine wp_step (e := (.dup, 1, 0, 0, 0)) (q := (1171, [.ref 205], [.ref 231, .ref 231, .ref 205], hO nS xs lg_595)) (am_cF_to (by with_unfolding_all rfl)) rfl (by with_unfolding_all rfl) ?_
  show am_Wp _ 167 1171 _ _ _ _
  refine wp_step (e := (.bipush 26, 2, 0, 0, 0)) (q := (1173, [.ref 205], [.int 26, .ref 231, .ref 231, .ref 205], hO nS xs lg_595)) (am_cF_to (by with_unfolding_all rfl)) rfl (by with_unfolding_all rfl) ?_
  show am_Wp _ 167 1173 _ _ _ _
  refine wp_step (e := (.bipush 6, 2, 0, 0, 0)) (q := (1175, [.ref 205], [.int 6, .int 26, .ref 231, .ref 231, .ref 205], hO nS xs lg_595)) (am_cF_to (by with_unfolding_all rfl)) rfl (by with_unfolding_all rfl) ?_
  show am_Wp _ 167 1175 _ _ _ _
  refine wp_step (e := (.iastore, 1, 0, 0, 0)) (q := (1176, [.ref 205], [.ref 231, .ref 205], hO nS xs lg_596)) (am_cF_to (by with_unfolding_all rfl)) rfl (by with_unfolding_all rfl) ?_
  show am_Wp _ 167 1176 _ _ _ _
  refine wp_step (e := (.dup, 1, 0, 0, 0)) (q := (1177, [.ref 205], [.ref 231, .ref 231, .ref 205], hO nS xs lg_596)) (am_cF_to (by with_unfolding_all rfl)) rfl (by with_unfolding_all rfl) ?_
  show am_Wp _ 167 1177 _ _ _ _
  refine wp_step (e := (.bipush 27, 2, 0, 0, 0)) (q := (1179, [.ref 205], [.int 27, .ref 231, .ref 231, .ref 205], hO nS xs lg_596)) (am_cF_to (by with_unfolding_all rfl)) rfl (by with_unfolding_all rfl) ?_
  show am_Wp _ 167 1179 _ _ _ _
  refine wp_step (e := (.bipush 6, 2, 0, 0, 0)) (q := (1181, [.ref 205], [.int 6, .int 27, .ref 231, .ref 231, .ref 205], hO nS xs lg_596)) (am_cF_to (by with_unfolding_all rfl)) rfl (by with_unfolding_all rfl) ?_
  show am_Wp _ 167 1181 _ _ _ _
  refine wp_step (e := (.iastore, 1, 0, 0, 0)) (q := (1182, [.ref 205], [.ref 231, .ref 205], hO nS xs lg_597)) (am_cF_to (by with_unfolding_all rfl)) rfl (by with_unfolding_all rfl) ?_
  show am_Wp _ 167 1182 _ _ _ _
  refine wp_step (e := (.putfield 89, 3, 11, 50, 167)) (q := (1185, [.ref 205], [], hO nS xs lg_598)) (am_cF_to (by with_unfolding_all rfl)) rfl (by with_unfolding_all rfl) ?_
  show am_Wp _ 167 1185 _ _ _ _
  refine wp_step (e := (.aload_n 0, 1, 0, 0, 0)) (q := (1186, [.ref 205], [.ref 205], hO nS xs lg_598)) (am_cF_to (by with_unfolding_all rfl)) rfl (by with_unfolding_all rfl) ?_
  show am_Wp _ 167 1186 _ _ _ _
  refine wp_step (e := (.bipush 8, 2, 0, 0, 0)) (q := (1188, [.ref 205], [.int 8, .ref 205], hO nS xs lg_598)) (am_cF_to (by with_unfolding_all rfl)) rfl (by with_unfolding_all rfl) ?_
  show am_Wp _ 167 1188 _ _ _ _
  refine wp_step (e := (.newarray .int, 2, 0, 0, 0)) (q := (1190, [.ref 205], [.ref 232, .ref 205], hO nS xs lg_599)) (am_cF_to (by with_unfolding_all rfl)) rfl (by with_unfolding_all rfl) ?_
  show am_Wp _ 167 1190 _ _ _ _
  refine wp_step (e := (.putfield 92, 3, 11, 52, 168)) (q := (1193, [.ref 205], [], hO nS xs lg_600)) (am_cF_to (by with_unfolding_all rfl)) rfl (by with_unfolding_all rfl) ?_
  show am_Wp _ 167 1193 _ _ _ _
  refine wp_step (e := (.aload_n 0, 1, 0, 0, 0)) (q := (1194, [.ref 205], [.ref 205], hO nS xs lg_600)) (am_cF_to (by with_unfolding_all rfl)) rfl (by with_unfolding_all rfl) ?_
  show am_Wp _ 167 1194 _ _ _ _
  refine wp_step (e := (.bipush 64, 2, 0, 0, 0)) (q := (1196, [.ref 205], [.int 64, .ref 205], hO nS xs lg_600)) (am_cF_to (by with_unfolding_all rfl)) rfl (by with_unfolding_all rfl) ?_
  show am_Wp _ 167 1196 _ _ _ _
  refine wp_step (e := (.newarray .int, 2, 0, 0, 0)) (q := (1198, [.ref 205], [.ref 233, .ref 205], hO nS xs lg_601)) (am_cF_to (by with_unfolding_all rfl)) rfl (by with_unfolding_all rfl) ?_
  show am_Wp _ 167 1198 _ _ _ _
  refine wp_step (e := (.putfield 95, 3, 11, 53, 169)) (q := (1201, [.ref 205], [], hO nS xs lg_602)) (am_cF_to (by with_unfolding_all rfl)) rfl (by with_unfolding_all rfl) ?_
  show am_Wp _ 167 1201 _ _ _ _
  refine wp_step (e := (.aload_n 0, 1, 0, 0, 0)) (q := (1202, [.ref 205], [.ref 205], hO nS xs lg_602)) (am_cF_to (by with_unfolding_all rfl)) rfl (by with_unfolding_all rfl) ?_
  show am_Wp _ 167 1202 _ _ _ _
  refine wp_step (e := (.bipush 8, 2, 0, 0, 0)) (q := (1204, [.ref 205], [.int 8, .ref 205], hO nS xs lg_602)) (am_cF_to (by with_unfolding_all rfl)) rfl (by with_unfolding_all rfl) ?_
  show am_Wp _ 167 1204 _ _ _ _
  refine wp_step (e := (.newarray .int, 2, 0, 0, 0)) (q := (1206, [.ref 205], [.ref 234, .ref 205], hO nS xs lg_603)) (am_cF_to (by with_unfolding_all rfl)) rfl (by with_unfolding_all rfl) ?_
  show am_Wp _ 167 1206 _ _ _ _
  refine wp_step (e := (.putfield 98, 3, 11, 55, 170)) (q := (1209, [.ref 205], [], hO nS xs lg_604)) (am_cF_to (by with_unfolding_all rfl)) rfl (by with_unfolding_all rfl) ?_
  show am_Wp _ 167 1209 _ _ _ _
  refine wp_step (e := (.aload_n 0, 1, 0, 0, 0)) (q := (1210, [.ref 205], [.ref 205], hO nS xs lg_604)) (am_cF_to (by with_unfolding_all rfl)) rfl (by with_unfolding_all rfl) ?_
  show am_Wp _ 167 1210 _ _ _ _
  refine wp_step (e := (.bipush 8, 2, 0, 0, 0)) (q := (1212, [.ref 205], [.int 8, .ref 205], hO nS xs lg_604)) (am_cF_to (by with_unfolding_all rfl)) rfl (by with_unfolding_all rfl) ?_
  show am_Wp _ 167 1212 _ _ _ _
  refine wp_step (e := (.newarray .int, 2, 0, 0, 0)) (q := (1214, [.ref 205], [.ref 235, .ref 205], hO nS xs lg_605)) (am_cF_to (by with_unfolding_all rfl)) rfl (by with_unfolding_all rfl) ?_
  show am_Wp _ 167 1214 _ _ _ _
  refine wp_step (e := (.putfield 101, 3, 11, 56, 171)) (q := (1217, [.ref 205], [], hO nS xs lg_606)) (am_cF_to (by with_unfolding_all rfl)) rfl (by with_unfolding_all rfl) ?_
  show am_Wp _ 167 1217 _ _ _ _
  refine wp_step (e := (.aload_n 0, 1, 0, 0, 0)) (q := (1218, [.ref 205], [.ref 205], hO nS xs lg_606)) (am_cF_to (by with_unfolding_all rfl)) rfl (by with_unfolding_all rfl) ?_
  show am_Wp _ 167 1218 _ _ _ _
  refine wp_step (e := (.bipush 61, 2, 0, 0, 0)) (q := (1220, [.ref 205], [.int 61, .ref 205], hO nS xs lg_606)) (am_cF_to (by with_unfolding_all rfl)) rfl (by with_unfolding_all rfl) ?_
  show am_Wp _ 167 1220 _ _ _ _
  refine wp_step (e := (.newarray .int, 2, 0, 0, 0)) (q := (1222, [.ref 205], [.ref 236, .ref 205], hO nS xs lg_607)) (am_cF_to (by with_unfolding_all rfl)) rfl (by with_unfolding_all rfl) ?_
  show am_Wp _ 167 1222 _ _ _ _
  refine wp_step (e := (.putfield 104, 3, 11, 57, 172)) (q := (1225, [.ref 205], [], hO nS xs lg_608)) (am_cF_to (by with_unfolding_all rfl)) rfl (by with_unfolding_all rfl) ?_
  show am_Wp _ 167 1225 _ _ _ _
  refine wp_step (e := (.aload_n 0, 1, 0, 0, 0)) (q := (1226, [.ref 205], [.ref 205], hO nS xs lg_608)) (am_cF_to (by with_unfolding_all rfl)) rfl (by with_unfolding_all rfl) ?_
  show am_Wp _ 167 1226 _ _ _ _
  refine wp_step (e := (.sipush 1010, 3, 0, 0, 0)) (q := (1229, [.ref 205], [.int 1010, .ref 205], hO nS xs lg_608)) (am_cF_to (by with_unfolding_all rfl)) rfl (by with_unfolding_all rfl) ?_
  show am_Wp _ 167 1229 _ _ _ _
  refine wp_step (e := (.newarray .int, 2, 0, 0, 0)) (q := (1231, [.ref 205], [.ref 237, .ref 205], hO nS xs lg_609)) (am_cF_to (by with_unfolding_all rfl)) rfl (by with_unfolding_all rfl) ?_
  show am_Wp _ 167 1231 _ _ _ _
  refine wp_step (e := (.putfield 107, 3, 11, 58, 173)) (q := (1234, [.ref 205], [], hO nS xs lg_610)) (am_cF_to (by with_unfolding_all rfl)) rfl (by with_unfolding_all rfl) ?_
  show am_Wp _ 167 1234 _ _ _ _
  refine wp_step (e := (.aload_n 0, 1, 0, 0, 0)) (q := (1235, [.ref 205], [.ref 205], hO nS xs lg_610)) (am_cF_to (by with_unfolding_all rfl)) rfl (by with_unfolding_all rfl) ?_
  show am_Wp _ 167 1235 _ _ _ _
  refine wp_step (e := (.sipush 2200, 3, 0, 0, 0)) (q := (1238, [.ref 205], [.int 2200, .ref 205], hO nS xs lg_610)) (am_cF_to (by with_unfolding_all rfl)) rfl (by with_unfolding_all rfl) ?_
  show am_Wp _ 167 1238 _ _ _ _
  refine wp_step (e := (.newarray .int, 2, 0, 0, 0)) (q := (1240, [.ref 205], [.ref 238, .ref 205], hO nS xs lg_611)) (am_cF_to (by with_unfolding_all rfl)) rfl (by with_unfolding_all rfl) ?_
  show am_Wp _ 167 1240 _ _ _ _
  refine wp_step (e := (.putfield 110, 3, 11, 62, 174)) (q := (1243, [.ref 205], [], hO nS xs lg_612)) (am_cF_to (by with_unfolding_all rfl)) rfl (by with_unfolding_all rfl) ?_
  show am_Wp _ 167 1243 _ _ _ _
  exact (eq_retV2 (e := (.return_, 1, 0, 0, 0)) (by with_unfolding_all rfl) rfl (by with_unfolding_all rfl)).mpr k
end
