section
/-! THE CONSTRUCTORS RUN -/
set_option maxRecDepth 20000 in
theorem in_law {d nS : Nat} {xs : Nat → Int32} {Q : Option Value → am_H → Prop} (k : am_Wp (d + 4) 0 18 [.ref 0, .ref 16, .ref 205, .int 0] [] (hO nS xs lg_612) Q) : am_Wp (d + 4) 0 0 [.ref 0, .retAddr 0, .retAddr 0, .retAddr 0] [] (hO nS xs lg_0) Q := by
  refine wp_step (e := (.new 7, 3, 10, 0, 14)) (q := (3, [.ref 0, .retAddr 0, .retAddr 0, .retAddr 0], [.ref 16], hO nS xs lg_1)) (am_cF_to (by with_unfolding_all rfl)) rfl (by with_unfolding_all rfl) ?_
  show am_Wp _ 0 3 _ _ _ _
  refine wp_step (e := (.dup, 1, 0, 0, 0)) (q := (4, [.ref 0, .retAddr 0, .retAddr 0, .retAddr 0], [.ref 16, .ref 16], hO nS xs lg_1)) (am_cF_to (by with_unfolding_all rfl)) rfl (by with_unfolding_all rfl) ?_
  show am_Wp _ 0 4 _ _ _ _
  refine (eq_call2 (e := (.invokespecial 9, 3, 2, 122, 195)) (as := [.ref 16]) (r := [.ref 16]) (n := 1) (m := 1) (by with_unfolding_all rfl) rfl (by decide) (by with_unfolding_all rfl) (by decide) (by with_unfolding_all rfl) ⟨fun z => absurd z (by decide), fun _ => rfl⟩).mpr ?_
  refine in_31 (d := d) ?_
  show am_Wp _ 0 7 _ _ _ _
  refine wp_step (e := (.astore_n 1, 1, 0, 0, 0)) (q := (8, [.ref 0, .ref 16, .retAddr 0, .retAddr 0], [], hO nS xs lg_378)) (am_cF_to (by with_unfolding_all rfl)) rfl (by with_unfolding_all rfl) ?_
  show am_Wp _ 0 8 _ _ _ _
  refine wp_step (e := (.new 10, 3, 11, 0, 15)) (q := (11, [.ref 0, .ref 16, .retAddr 0, .retAddr 0], [.ref 205], hO nS xs lg_379)) (am_cF_to (by with_unfolding_all rfl)) rfl (by with_unfolding_all rfl) ?_
  show am_Wp _ 0 11 _ _ _ _
  refine wp_step (e := (.dup, 1, 0, 0, 0)) (q := (12, [.ref 0, .ref 16, .retAddr 0, .retAddr 0], [.ref 205, .ref 205], hO nS xs lg_379)) (am_cF_to (by with_unfolding_all rfl)) rfl (by with_unfolding_all rfl) ?_
  show am_Wp _ 0 12 _ _ _ _
  refine (eq_call2 (e := (.invokespecial 12, 3, 2, 167, 196)) (as := [.ref 205]) (r := [.ref 205]) (n := 1) (m := 1) (by with_unfolding_all rfl) rfl (by decide) (by with_unfolding_all rfl) (by decide) (by with_unfolding_all rfl) ⟨fun z => absurd z (by decide), fun _ => rfl⟩).mpr ?_
  refine in_32 (d := d + 2) ?_
  show am_Wp _ 0 15 _ _ _ _
  refine wp_step (e := (.astore_n 2, 1, 0, 0, 0)) (q := (16, [.ref 0, .ref 16, .ref 205, .retAddr 0], [], hO nS xs lg_612)) (am_cF_to (by with_unfolding_all rfl)) rfl (by with_unfolding_all rfl) ?_
  show am_Wp _ 0 16 _ _ _ _
  refine wp_step (e := (.iconst 0, 1, 0, 0, 0)) (q := (17, [.ref 0, .ref 16, .ref 205, .retAddr 0], [.int 0], hO nS xs lg_612)) (am_cF_to (by with_unfolding_all rfl)) rfl (by with_unfolding_all rfl) ?_
  show am_Wp _ 0 17 _ _ _ _
  refine wp_step (e := (.istore_n 3, 1, 0, 0, 0)) (q := (18, [.ref 0, .ref 16, .ref 205, .int 0], [], hO nS xs lg_612)) (am_cF_to (by with_unfolding_all rfl)) rfl (by with_unfolding_all rfl) ?_
  show am_Wp _ 0 18 _ _ _ _
  exact k
end
