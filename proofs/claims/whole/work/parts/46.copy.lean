/-! COPIES of rows -/
set_option maxRecDepth 20000 in
theorem b_131_0 {d nS : Nat} {M : am_M} {Q : Option Value → am_H → Prop} : am_Wp (d + 1) 131 0 [.ref 189, .ref 32] [] (hp nS M) Q = am_Wp d 296 0 [.int 16, .int 16] [] (hp nS M) (fun v h1 => am_Wp (d + 1) 131 11 [.ref 189, .ref 32] (am_ans v [.int 0, .ref 32, .int 0, .ref 189]) h1 Q) := by
  refine (eq_run 8 (q := (8, [.ref 189, .ref 32], [.int 16, .int 16, .int 0, .ref 32, .int 0, .ref 189], hp nS M)) (by with_unfolding_all rfl)).trans ?_
  exact eq_call2 (e := (.invokestatic 359, 3, 1, 296, 65)) (as := [.int 16, .int 16]) (r := [.int 0, .ref 32, .int 0, .ref 189]) (n := 2) (m := 2) (by with_unfolding_all rfl) rfl (by decide) (by with_unfolding_all rfl) (by decide) (by with_unfolding_all rfl) ⟨fun z => absurd z (by decide), fun z => by simp at z⟩
-- b_131_11: copy
theorem k_189_32 {d nS : Nat} {M : am_M} {Q : Option Value → am_H → Prop} : am_Wp (d + 1) 131 0 [.ref 189, .ref 32] [] (hp nS M) Q = Q none (hp nS (am_row M 32 (va_cpy (M 189) (M 32) 0 0 16))) := by
  rw [b_131_0, c_296, am_ans_some, show (if (16 : Int32) < 16 then (16 : Int32) else 16) = 16 from rfl]
  refine (eq_copy2 (e := (.invokestatic 362, 3, 6, 0, 66)) (na := 16) (nb := 16) (by with_unfolding_all rfl) rfl rfl (by with_unfolding_all rfl) (by with_unfolding_all rfl) (by decide) (by decide) (by decide) ⟨by decide, by decide, by decide⟩).trans ?_
  exact eq_retV2 (e := (.return_, 1, 0, 0, 0)) (by with_unfolding_all rfl) rfl (by with_unfolding_all rfl)
set_option maxRecDepth 20000 in
theorem b_131i1_0 {d nS : Nat} {M : am_M} {Q : Option Value → am_H → Prop} : am_Wp (d + 1) 131 0 [.ref 190, .ref 33] [] (hp nS M) Q = am_Wp d 296 0 [.int 16, .int 16] [] (hp nS M) (fun v h1 => am_Wp (d + 1) 131 11 [.ref 190, .ref 33] (am_ans v [.int 0, .ref 33, .int 0, .ref 190]) h1 Q) := by
  refine (eq_run 8 (q := (8, [.ref 190, .ref 33], [.int 16, .int 16, .int 0, .ref 33, .int 0, .ref 190], hp nS M)) (by with_unfolding_all rfl)).trans ?_
  exact eq_call2 (e := (.invokestatic 359, 3, 1, 296, 65)) (as := [.int 16, .int 16]) (r := [.int 0, .ref 33, .int 0, .ref 190]) (n := 2) (m := 2) (by with_unfolding_all rfl) rfl (by decide) (by with_unfolding_all rfl) (by decide) (by with_unfolding_all rfl) ⟨fun z => absurd z (by decide), fun z => by simp at z⟩
-- b_131i1_11: copy
theorem k_190_33 {d nS : Nat} {M : am_M} {Q : Option Value → am_H → Prop} : am_Wp (d + 1) 131 0 [.ref 190, .ref 33] [] (hp nS M) Q = Q none (hp nS (am_row M 33 (va_cpy (M 190) (M 33) 0 0 16))) := by
  rw [b_131i1_0, c_296, am_ans_some, show (if (16 : Int32) < 16 then (16 : Int32) else 16) = 16 from rfl]
  refine (eq_copy2 (e := (.invokestatic 362, 3, 6, 0, 66)) (na := 16) (nb := 16) (by with_unfolding_all rfl) rfl rfl (by with_unfolding_all rfl) (by with_unfolding_all rfl) (by decide) (by decide) (by decide) ⟨by decide, by decide, by decide⟩).trans ?_
  exact eq_retV2 (e := (.return_, 1, 0, 0, 0)) (by with_unfolding_all rfl) rfl (by with_unfolding_all rfl)
set_option maxRecDepth 20000 in
theorem b_131i2_0 {d nS : Nat} {M : am_M} {Q : Option Value → am_H → Prop} : am_Wp (d + 1) 131 0 [.ref 191, .ref 34] [] (hp nS M) Q = am_Wp d 296 0 [.int 16, .int 16] [] (hp nS M) (fun v h1 => am_Wp (d + 1) 131 11 [.ref 191, .ref 34] (am_ans v [.int 0, .ref 34, .int 0, .ref 191]) h1 Q) := by
  refine (eq_run 8 (q := (8, [.ref 191, .ref 34], [.int 16, .int 16, .int 0, .ref 34, .int 0, .ref 191], hp nS M)) (by with_unfolding_all rfl)).trans ?_
  exact eq_call2 (e := (.invokestatic 359, 3, 1, 296, 65)) (as := [.int 16, .int 16]) (r := [.int 0, .ref 34, .int 0, .ref 191]) (n := 2) (m := 2) (by with_unfolding_all rfl) rfl (by decide) (by with_unfolding_all rfl) (by decide) (by with_unfolding_all rfl) ⟨fun z => absurd z (by decide), fun z => by simp at z⟩
-- b_131i2_11: copy
theorem k_191_34 {d nS : Nat} {M : am_M} {Q : Option Value → am_H → Prop} : am_Wp (d + 1) 131 0 [.ref 191, .ref 34] [] (hp nS M) Q = Q none (hp nS (am_row M 34 (va_cpy (M 191) (M 34) 0 0 16))) := by
  rw [b_131i2_0, c_296, am_ans_some, show (if (16 : Int32) < 16 then (16 : Int32) else 16) = 16 from rfl]
  refine (eq_copy2 (e := (.invokestatic 362, 3, 6, 0, 66)) (na := 16) (nb := 16) (by with_unfolding_all rfl) rfl rfl (by with_unfolding_all rfl) (by with_unfolding_all rfl) (by decide) (by decide) (by decide) ⟨by decide, by decide, by decide⟩).trans ?_
  exact eq_retV2 (e := (.return_, 1, 0, 0, 0)) (by with_unfolding_all rfl) rfl (by with_unfolding_all rfl)
set_option maxRecDepth 20000 in
theorem b_131i3_0 {d nS : Nat} {M : am_M} {Q : Option Value → am_H → Prop} : am_Wp (d + 1) 131 0 [.ref 192, .ref 35] [] (hp nS M) Q = am_Wp d 296 0 [.int 16, .int 16] [] (hp nS M) (fun v h1 => am_Wp (d + 1) 131 11 [.ref 192, .ref 35] (am_ans v [.int 0, .ref 35, .int 0, .ref 192]) h1 Q) := by
  refine (eq_run 8 (q := (8, [.ref 192, .ref 35], [.int 16, .int 16, .int 0, .ref 35, .int 0, .ref 192], hp nS M)) (by with_unfolding_all rfl)).trans ?_
  exact eq_call2 (e := (.invokestatic 359, 3, 1, 296, 65)) (as := [.int 16, .int 16]) (r := [.int 0, .ref 35, .int 0, .ref 192]) (n := 2) (m := 2) (by with_unfolding_all rfl) rfl (by decide) (by with_unfolding_all rfl) (by decide) (by with_unfolding_all rfl) ⟨fun z => absurd z (by decide), fun z => by simp at z⟩
-- b_131i3_11: copy
theorem k_192_35 {d nS : Nat} {M : am_M} {Q : Option Value → am_H → Prop} : am_Wp (d + 1) 131 0 [.ref 192, .ref 35] [] (hp nS M) Q = Q none (hp nS (am_row M 35 (va_cpy (M 192) (M 35) 0 0 16))) := by
  rw [b_131i3_0, c_296, am_ans_some, show (if (16 : Int32) < 16 then (16 : Int32) else 16) = 16 from rfl]
  refine (eq_copy2 (e := (.invokestatic 362, 3, 6, 0, 66)) (na := 16) (nb := 16) (by with_unfolding_all rfl) rfl rfl (by with_unfolding_all rfl) (by with_unfolding_all rfl) (by decide) (by decide) (by decide) ⟨by decide, by decide, by decide⟩).trans ?_
  exact eq_retV2 (e := (.return_, 1, 0, 0, 0)) (by with_unfolding_all rfl) rfl (by with_unfolding_all rfl)
set_option maxRecDepth 20000 in
theorem b_131i4_0 {d nS : Nat} {M : am_M} {Q : Option Value → am_H → Prop} : am_Wp (d + 1) 131 0 [.ref 197, .ref 40] [] (hp nS M) Q = am_Wp d 296 0 [.int 80, .int 80] [] (hp nS M) (fun v h1 => am_Wp (d + 1) 131 11 [.ref 197, .ref 40] (am_ans v [.int 0, .ref 40, .int 0, .ref 197]) h1 Q) := by
  refine (eq_run 8 (q := (8, [.ref 197, .ref 40], [.int 80, .int 80, .int 0, .ref 40, .int 0, .ref 197], hp nS M)) (by with_unfolding_all rfl)).trans ?_
  exact eq_call2 (e := (.invokestatic 359, 3, 1, 296, 65)) (as := [.int 80, .int 80]) (r := [.int 0, .ref 40, .int 0, .ref 197]) (n := 2) (m := 2) (by with_unfolding_all rfl) rfl (by decide) (by with_unfolding_all rfl) (by decide) (by with_unfolding_all rfl) ⟨fun z => absurd z (by decide), fun z => by simp at z⟩
-- b_131i4_11: copy
theorem k_197_40 {d nS : Nat} {M : am_M} {Q : Option Value → am_H → Prop} : am_Wp (d + 1) 131 0 [.ref 197, .ref 40] [] (hp nS M) Q = Q none (hp nS (am_row M 40 (va_cpy (M 197) (M 40) 0 0 80))) := by
  rw [b_131i4_0, c_296, am_ans_some, show (if (80 : Int32) < 80 then (80 : Int32) else 80) = 80 from rfl]
  refine (eq_copy2 (e := (.invokestatic 362, 3, 6, 0, 66)) (na := 80) (nb := 80) (by with_unfolding_all rfl) rfl rfl (by with_unfolding_all rfl) (by with_unfolding_all rfl) (by decide) (by decide) (by decide) ⟨by decide, by decide, by decide⟩).trans ?_
  exact eq_retV2 (e := (.return_, 1, 0, 0, 0)) (by with_unfolding_all rfl) rfl (by with_unfolding_all rfl)
set_option maxRecDepth 20000 in
theorem b_131i5_0 {d nS : Nat} {M : am_M} {Q : Option Value → am_H → Prop} : am_Wp (d + 1) 131 0 [.ref 197, .ref 42] [] (hp nS M) Q = am_Wp d 296 0 [.int 80, .int 80] [] (hp nS M) (fun v h1 => am_Wp (d + 1) 131 11 [.ref 197, .ref 42] (am_ans v [.int 0, .ref 42, .int 0, .ref 197]) h1 Q) := by
  refine (eq_run 8 (q := (8, [.ref 197, .ref 42], [.int 80, .int 80, .int 0, .ref 42, .int 0, .ref 197], hp nS M)) (by with_unfolding_all rfl)).trans ?_
  exact eq_call2 (e := (.invokestatic 359, 3, 1, 296, 65)) (as := [.int 80, .int 80]) (r := [.int 0, .ref 42, .int 0, .ref 197]) (n := 2) (m := 2) (by with_unfolding_all rfl) rfl (by decide) (by with_unfolding_all rfl) (by decide) (by with_unfolding_all rfl) ⟨fun z => absurd z (by decide), fun z => by simp at z⟩
-- b_131i5_11: copy
theorem k_197_42 {d nS : Nat} {M : am_M} {Q : Option Value → am_H → Prop} : am_Wp (d + 1) 131 0 [.ref 197, .ref 42] [] (hp nS M) Q = Q none (hp nS (am_row M 42 (va_cpy (M 197) (M 42) 0 0 80))) := by
  rw [b_131i5_0, c_296, am_ans_some, show (if (80 : Int32) < 80 then (80 : Int32) else 80) = 80 from rfl]
  refine (eq_copy2 (e := (.invokestatic 362, 3, 6, 0, 66)) (na := 80) (nb := 80) (by with_unfolding_all rfl) rfl rfl (by with_unfolding_all rfl) (by with_unfolding_all rfl) (by decide) (by decide) (by decide) ⟨by decide, by decide, by decide⟩).trans ?_
  exact eq_retV2 (e := (.return_, 1, 0, 0, 0)) (by with_unfolding_all rfl) rfl (by with_unfolding_all rfl)
set_option maxRecDepth 20000 in
theorem b_131i6_0 {d nS : Nat} {M : am_M} {Q : Option Value → am_H → Prop} : am_Wp (d + 1) 131 0 [.ref 197, .ref 44] [] (hp nS M) Q = am_Wp d 296 0 [.int 80, .int 80] [] (hp nS M) (fun v h1 => am_Wp (d + 1) 131 11 [.ref 197, .ref 44] (am_ans v [.int 0, .ref 44, .int 0, .ref 197]) h1 Q) := by
  refine (eq_run 8 (q := (8, [.ref 197, .ref 44], [.int 80, .int 80, .int 0, .ref 44, .int 0, .ref 197], hp nS M)) (by with_unfolding_all rfl)).trans ?_
  exact eq_call2 (e := (.invokestatic 359, 3, 1, 296, 65)) (as := [.int 80, .int 80]) (r := [.int 0, .ref 44, .int 0, .ref 197]) (n := 2) (m := 2) (by with_unfolding_all rfl) rfl (by decide) (by with_unfolding_all rfl) (by decide) (by with_unfolding_all rfl) ⟨fun z => absurd z (by decide), fun z => by simp at z⟩
-- b_131i6_11: copy
theorem k_197_44 {d nS : Nat} {M : am_M} {Q : Option Value → am_H → Prop} : am_Wp (d + 1) 131 0 [.ref 197, .ref 44] [] (hp nS M) Q = Q none (hp nS (am_row M 44 (va_cpy (M 197) (M 44) 0 0 80))) := by
  rw [b_131i6_0, c_296, am_ans_some, show (if (80 : Int32) < 80 then (80 : Int32) else 80) = 80 from rfl]
  refine (eq_copy2 (e := (.invokestatic 362, 3, 6, 0, 66)) (na := 80) (nb := 80) (by with_unfolding_all rfl) rfl rfl (by with_unfolding_all rfl) (by with_unfolding_all rfl) (by decide) (by decide) (by decide) ⟨by decide, by decide, by decide⟩).trans ?_
  exact eq_retV2 (e := (.return_, 1, 0, 0, 0)) (by with_unfolding_all rfl) rfl (by with_unfolding_all rfl)
set_option maxRecDepth 20000 in
theorem b_131i7_0 {d nS : Nat} {M : am_M} {Q : Option Value → am_H → Prop} : am_Wp (d + 1) 131 0 [.ref 19, .ref 102] [] (hp nS M) Q = am_Wp d 296 0 [.int 6, .int 6] [] (hp nS M) (fun v h1 => am_Wp (d + 1) 131 11 [.ref 19, .ref 102] (am_ans v [.int 0, .ref 102, .int 0, .ref 19]) h1 Q) := by
  refine (eq_run 8 (q := (8, [.ref 19, .ref 102], [.int 6, .int 6, .int 0, .ref 102, .int 0, .ref 19], hp nS M)) (by with_unfolding_all rfl)).trans ?_
  exact eq_call2 (e := (.invokestatic 359, 3, 1, 296, 65)) (as := [.int 6, .int 6]) (r := [.int 0, .ref 102, .int 0, .ref 19]) (n := 2) (m := 2) (by with_unfolding_all rfl) rfl (by decide) (by with_unfolding_all rfl) (by decide) (by with_unfolding_all rfl) ⟨fun z => absurd z (by decide), fun z => by simp at z⟩
-- b_131i7_11: copy
theorem k_19_102 {d nS : Nat} {M : am_M} {Q : Option Value → am_H → Prop} : am_Wp (d + 1) 131 0 [.ref 19, .ref 102] [] (hp nS M) Q = Q none (hp nS (am_row M 102 (va_cpy (M 19) (M 102) 0 0 6))) := by
  rw [b_131i7_0, c_296, am_ans_some, show (if (6 : Int32) < 6 then (6 : Int32) else 6) = 6 from rfl]
  refine (eq_copy2 (e := (.invokestatic 362, 3, 6, 0, 66)) (na := 6) (nb := 6) (by with_unfolding_all rfl) rfl rfl (by with_unfolding_all rfl) (by with_unfolding_all rfl) (by decide) (by decide) (by decide) ⟨by decide, by decide, by decide⟩).trans ?_
  exact eq_retV2 (e := (.return_, 1, 0, 0, 0)) (by with_unfolding_all rfl) rfl (by with_unfolding_all rfl)
set_option maxRecDepth 20000 in
theorem b_131i8_0 {d nS : Nat} {M : am_M} {Q : Option Value → am_H → Prop} : am_Wp (d + 1) 131 0 [.ref 20, .ref 103] [] (hp nS M) Q = am_Wp d 296 0 [.int 6, .int 6] [] (hp nS M) (fun v h1 => am_Wp (d + 1) 131 11 [.ref 20, .ref 103] (am_ans v [.int 0, .ref 103, .int 0, .ref 20]) h1 Q) := by
  refine (eq_run 8 (q := (8, [.ref 20, .ref 103], [.int 6, .int 6, .int 0, .ref 103, .int 0, .ref 20], hp nS M)) (by with_unfolding_all rfl)).trans ?_
  exact eq_call2 (e := (.invokestatic 359, 3, 1, 296, 65)) (as := [.int 6, .int 6]) (r := [.int 0, .ref 103, .int 0, .ref 20]) (n := 2) (m := 2) (by with_unfolding_all rfl) rfl (by decide) (by with_unfolding_all rfl) (by decide) (by with_unfolding_all rfl) ⟨fun z => absurd z (by decide), fun z => by simp at z⟩
-- b_131i8_11: copy
theorem k_20_103 {d nS : Nat} {M : am_M} {Q : Option Value → am_H → Prop} : am_Wp (d + 1) 131 0 [.ref 20, .ref 103] [] (hp nS M) Q = Q none (hp nS (am_row M 103 (va_cpy (M 20) (M 103) 0 0 6))) := by
  rw [b_131i8_0, c_296, am_ans_some, show (if (6 : Int32) < 6 then (6 : Int32) else 6) = 6 from rfl]
  refine (eq_copy2 (e := (.invokestatic 362, 3, 6, 0, 66)) (na := 6) (nb := 6) (by with_unfolding_all rfl) rfl rfl (by with_unfolding_all rfl) (by with_unfolding_all rfl) (by decide) (by decide) (by decide) ⟨by decide, by decide, by decide⟩).trans ?_
  exact eq_retV2 (e := (.return_, 1, 0, 0, 0)) (by with_unfolding_all rfl) rfl (by with_unfolding_all rfl)
set_option maxRecDepth 20000 in
theorem b_131i9_0 {d nS : Nat} {M : am_M} {Q : Option Value → am_H → Prop} : am_Wp (d + 1) 131 0 [.ref 21, .ref 104] [] (hp nS M) Q = am_Wp d 296 0 [.int 6, .int 6] [] (hp nS M) (fun v h1 => am_Wp (d + 1) 131 11 [.ref 21, .ref 104] (am_ans v [.int 0, .ref 104, .int 0, .ref 21]) h1 Q) := by
  refine (eq_run 8 (q := (8, [.ref 21, .ref 104], [.int 6, .int 6, .int 0, .ref 104, .int 0, .ref 21], hp nS M)) (by with_unfolding_all rfl)).trans ?_
  exact eq_call2 (e := (.invokestatic 359, 3, 1, 296, 65)) (as := [.int 6, .int 6]) (r := [.int 0, .ref 104, .int 0, .ref 21]) (n := 2) (m := 2) (by with_unfolding_all rfl) rfl (by decide) (by with_unfolding_all rfl) (by decide) (by with_unfolding_all rfl) ⟨fun z => absurd z (by decide), fun z => by simp at z⟩
-- b_131i9_11: copy
theorem k_21_104 {d nS : Nat} {M : am_M} {Q : Option Value → am_H → Prop} : am_Wp (d + 1) 131 0 [.ref 21, .ref 104] [] (hp nS M) Q = Q none (hp nS (am_row M 104 (va_cpy (M 21) (M 104) 0 0 6))) := by
  rw [b_131i9_0, c_296, am_ans_some, show (if (6 : Int32) < 6 then (6 : Int32) else 6) = 6 from rfl]
  refine (eq_copy2 (e := (.invokestatic 362, 3, 6, 0, 66)) (na := 6) (nb := 6) (by with_unfolding_all rfl) rfl rfl (by with_unfolding_all rfl) (by with_unfolding_all rfl) (by decide) (by decide) (by decide) ⟨by decide, by decide, by decide⟩).trans ?_
  exact eq_retV2 (e := (.return_, 1, 0, 0, 0)) (by with_unfolding_all rfl) rfl (by with_unfolding_all rfl)
set_option maxRecDepth 20000 in
theorem b_131i10_0 {d nS : Nat} {M : am_M} {Q : Option Value → am_H → Prop} : am_Wp (d + 1) 131 0 [.ref 22, .ref 105] [] (hp nS M) Q = am_Wp d 296 0 [.int 6, .int 6] [] (hp nS M) (fun v h1 => am_Wp (d + 1) 131 11 [.ref 22, .ref 105] (am_ans v [.int 0, .ref 105, .int 0, .ref 22]) h1 Q) := by
  refine (eq_run 8 (q := (8, [.ref 22, .ref 105], [.int 6, .int 6, .int 0, .ref 105, .int 0, .ref 22], hp nS M)) (by with_unfolding_all rfl)).trans ?_
  exact eq_call2 (e := (.invokestatic 359, 3, 1, 296, 65)) (as := [.int 6, .int 6]) (r := [.int 0, .ref 105, .int 0, .ref 22]) (n := 2) (m := 2) (by with_unfolding_all rfl) rfl (by decide) (by with_unfolding_all rfl) (by decide) (by with_unfolding_all rfl) ⟨fun z => absurd z (by decide), fun z => by simp at z⟩
-- b_131i10_11: copy
theorem k_22_105 {d nS : Nat} {M : am_M} {Q : Option Value → am_H → Prop} : am_Wp (d + 1) 131 0 [.ref 22, .ref 105] [] (hp nS M) Q = Q none (hp nS (am_row M 105 (va_cpy (M 22) (M 105) 0 0 6))) := by
  rw [b_131i10_0, c_296, am_ans_some, show (if (6 : Int32) < 6 then (6 : Int32) else 6) = 6 from rfl]
  refine (eq_copy2 (e := (.invokestatic 362, 3, 6, 0, 66)) (na := 6) (nb := 6) (by with_unfolding_all rfl) rfl rfl (by with_unfolding_all rfl) (by with_unfolding_all rfl) (by decide) (by decide) (by decide) ⟨by decide, by decide, by decide⟩).trans ?_
  exact eq_retV2 (e := (.return_, 1, 0, 0, 0)) (by with_unfolding_all rfl) rfl (by with_unfolding_all rfl)
set_option maxRecDepth 20000 in
theorem b_131i11_0 {d nS : Nat} {M : am_M} {Q : Option Value → am_H → Prop} : am_Wp (d + 1) 131 0 [.ref 23, .ref 106] [] (hp nS M) Q = am_Wp d 296 0 [.int 6, .int 6] [] (hp nS M) (fun v h1 => am_Wp (d + 1) 131 11 [.ref 23, .ref 106] (am_ans v [.int 0, .ref 106, .int 0, .ref 23]) h1 Q) := by
  refine (eq_run 8 (q := (8, [.ref 23, .ref 106], [.int 6, .int 6, .int 0, .ref 106, .int 0, .ref 23], hp nS M)) (by with_unfolding_all rfl)).trans ?_
  exact eq_call2 (e := (.invokestatic 359, 3, 1, 296, 65)) (as := [.int 6, .int 6]) (r := [.int 0, .ref 106, .int 0, .ref 23]) (n := 2) (m := 2) (by with_unfolding_all rfl) rfl (by decide) (by with_unfolding_all rfl) (by decide) (by with_unfolding_all rfl) ⟨fun z => absurd z (by decide), fun z => by simp at z⟩
-- b_131i11_11: copy
theorem k_23_106 {d nS : Nat} {M : am_M} {Q : Option Value → am_H → Prop} : am_Wp (d + 1) 131 0 [.ref 23, .ref 106] [] (hp nS M) Q = Q none (hp nS (am_row M 106 (va_cpy (M 23) (M 106) 0 0 6))) := by
  rw [b_131i11_0, c_296, am_ans_some, show (if (6 : Int32) < 6 then (6 : Int32) else 6) = 6 from rfl]
  refine (eq_copy2 (e := (.invokestatic 362, 3, 6, 0, 66)) (na := 6) (nb := 6) (by with_unfolding_all rfl) rfl rfl (by with_unfolding_all rfl) (by with_unfolding_all rfl) (by decide) (by decide) (by decide) ⟨by decide, by decide, by decide⟩).trans ?_
  exact eq_retV2 (e := (.return_, 1, 0, 0, 0)) (by with_unfolding_all rfl) rfl (by with_unfolding_all rfl)
set_option maxRecDepth 20000 in
theorem b_131i12_0 {d nS : Nat} {M : am_M} {Q : Option Value → am_H → Prop} : am_Wp (d + 1) 131 0 [.ref 24, .ref 107] [] (hp nS M) Q = am_Wp d 296 0 [.int 8, .int 8] [] (hp nS M) (fun v h1 => am_Wp (d + 1) 131 11 [.ref 24, .ref 107] (am_ans v [.int 0, .ref 107, .int 0, .ref 24]) h1 Q) := by
  refine (eq_run 8 (q := (8, [.ref 24, .ref 107], [.int 8, .int 8, .int 0, .ref 107, .int 0, .ref 24], hp nS M)) (by with_unfolding_all rfl)).trans ?_
  exact eq_call2 (e := (.invokestatic 359, 3, 1, 296, 65)) (as := [.int 8, .int 8]) (r := [.int 0, .ref 107, .int 0, .ref 24]) (n := 2) (m := 2) (by with_unfolding_all rfl) rfl (by decide) (by with_unfolding_all rfl) (by decide) (by with_unfolding_all rfl) ⟨fun z => absurd z (by decide), fun z => by simp at z⟩
-- b_131i12_11: copy
theorem k_24_107 {d nS : Nat} {M : am_M} {Q : Option Value → am_H → Prop} : am_Wp (d + 1) 131 0 [.ref 24, .ref 107] [] (hp nS M) Q = Q none (hp nS (am_row M 107 (va_cpy (M 24) (M 107) 0 0 8))) := by
  rw [b_131i12_0, c_296, am_ans_some, show (if (8 : Int32) < 8 then (8 : Int32) else 8) = 8 from rfl]
  refine (eq_copy2 (e := (.invokestatic 362, 3, 6, 0, 66)) (na := 8) (nb := 8) (by with_unfolding_all rfl) rfl rfl (by with_unfolding_all rfl) (by with_unfolding_all rfl) (by decide) (by decide) (by decide) ⟨by decide, by decide, by decide⟩).trans ?_
  exact eq_retV2 (e := (.return_, 1, 0, 0, 0)) (by with_unfolding_all rfl) rfl (by with_unfolding_all rfl)
set_option maxRecDepth 20000 in
theorem b_131i13_0 {d nS : Nat} {M : am_M} {Q : Option Value → am_H → Prop} : am_Wp (d + 1) 131 0 [.ref 25, .ref 108] [] (hp nS M) Q = am_Wp d 296 0 [.int 8, .int 8] [] (hp nS M) (fun v h1 => am_Wp (d + 1) 131 11 [.ref 25, .ref 108] (am_ans v [.int 0, .ref 108, .int 0, .ref 25]) h1 Q) := by
  refine (eq_run 8 (q := (8, [.ref 25, .ref 108], [.int 8, .int 8, .int 0, .ref 108, .int 0, .ref 25], hp nS M)) (by with_unfolding_all rfl)).trans ?_
  exact eq_call2 (e := (.invokestatic 359, 3, 1, 296, 65)) (as := [.int 8, .int 8]) (r := [.int 0, .ref 108, .int 0, .ref 25]) (n := 2) (m := 2) (by with_unfolding_all rfl) rfl (by decide) (by with_unfolding_all rfl) (by decide) (by with_unfolding_all rfl) ⟨fun z => absurd z (by decide), fun z => by simp at z⟩
-- b_131i13_11: copy
theorem k_25_108 {d nS : Nat} {M : am_M} {Q : Option Value → am_H → Prop} : am_Wp (d + 1) 131 0 [.ref 25, .ref 108] [] (hp nS M) Q = Q none (hp nS (am_row M 108 (va_cpy (M 25) (M 108) 0 0 8))) := by
  rw [b_131i13_0, c_296, am_ans_some, show (if (8 : Int32) < 8 then (8 : Int32) else 8) = 8 from rfl]
  refine (eq_copy2 (e := (.invokestatic 362, 3, 6, 0, 66)) (na := 8) (nb := 8) (by with_unfolding_all rfl) rfl rfl (by with_unfolding_all rfl) (by with_unfolding_all rfl) (by decide) (by decide) (by decide) ⟨by decide, by decide, by decide⟩).trans ?_
  exact eq_retV2 (e := (.return_, 1, 0, 0, 0)) (by with_unfolding_all rfl) rfl (by with_unfolding_all rfl)
set_option maxRecDepth 20000 in
theorem b_131i14_0 {d nS : Nat} {M : am_M} {Q : Option Value → am_H → Prop} : am_Wp (d + 1) 131 0 [.ref 26, .ref 109] [] (hp nS M) Q = am_Wp d 296 0 [.int 8, .int 8] [] (hp nS M) (fun v h1 => am_Wp (d + 1) 131 11 [.ref 26, .ref 109] (am_ans v [.int 0, .ref 109, .int 0, .ref 26]) h1 Q) := by
  refine (eq_run 8 (q := (8, [.ref 26, .ref 109], [.int 8, .int 8, .int 0, .ref 109, .int 0, .ref 26], hp nS M)) (by with_unfolding_all rfl)).trans ?_
  exact eq_call2 (e := (.invokestatic 359, 3, 1, 296, 65)) (as := [.int 8, .int 8]) (r := [.int 0, .ref 109, .int 0, .ref 26]) (n := 2) (m := 2) (by with_unfolding_all rfl) rfl (by decide) (by with_unfolding_all rfl) (by decide) (by with_unfolding_all rfl) ⟨fun z => absurd z (by decide), fun z => by simp at z⟩
-- b_131i14_11: copy
theorem k_26_109 {d nS : Nat} {M : am_M} {Q : Option Value → am_H → Prop} : am_Wp (d + 1) 131 0 [.ref 26, .ref 109] [] (hp nS M) Q = Q none (hp nS (am_row M 109 (va_cpy (M 26) (M 109) 0 0 8))) := by
  rw [b_131i14_0, c_296, am_ans_some, show (if (8 : Int32) < 8 then (8 : Int32) else 8) = 8 from rfl]
  refine (eq_copy2 (e := (.invokestatic 362, 3, 6, 0, 66)) (na := 8) (nb := 8) (by with_unfolding_all rfl) rfl rfl (by with_unfolding_all rfl) (by with_unfolding_all rfl) (by decide) (by decide) (by decide) ⟨by decide, by decide, by decide⟩).trans ?_
  exact eq_retV2 (e := (.return_, 1, 0, 0, 0)) (by with_unfolding_all rfl) rfl (by with_unfolding_all rfl)
set_option maxRecDepth 20000 in
theorem b_131i15_0 {d nS : Nat} {M : am_M} {Q : Option Value → am_H → Prop} : am_Wp (d + 1) 131 0 [.ref 27, .ref 110] [] (hp nS M) Q = am_Wp d 296 0 [.int 10, .int 10] [] (hp nS M) (fun v h1 => am_Wp (d + 1) 131 11 [.ref 27, .ref 110] (am_ans v [.int 0, .ref 110, .int 0, .ref 27]) h1 Q) := by
  refine (eq_run 8 (q := (8, [.ref 27, .ref 110], [.int 10, .int 10, .int 0, .ref 110, .int 0, .ref 27], hp nS M)) (by with_unfolding_all rfl)).trans ?_
  exact eq_call2 (e := (.invokestatic 359, 3, 1, 296, 65)) (as := [.int 10, .int 10]) (r := [.int 0, .ref 110, .int 0, .ref 27]) (n := 2) (m := 2) (by with_unfolding_all rfl) rfl (by decide) (by with_unfolding_all rfl) (by decide) (by with_unfolding_all rfl) ⟨fun z => absurd z (by decide), fun z => by simp at z⟩
-- b_131i15_11: copy
theorem k_27_110 {d nS : Nat} {M : am_M} {Q : Option Value → am_H → Prop} : am_Wp (d + 1) 131 0 [.ref 27, .ref 110] [] (hp nS M) Q = Q none (hp nS (am_row M 110 (va_cpy (M 27) (M 110) 0 0 10))) := by
  rw [b_131i15_0, c_296, am_ans_some, show (if (10 : Int32) < 10 then (10 : Int32) else 10) = 10 from rfl]
  refine (eq_copy2 (e := (.invokestatic 362, 3, 6, 0, 66)) (na := 10) (nb := 10) (by with_unfolding_all rfl) rfl rfl (by with_unfolding_all rfl) (by with_unfolding_all rfl) (by decide) (by decide) (by decide) ⟨by decide, by decide, by decide⟩).trans ?_
  exact eq_retV2 (e := (.return_, 1, 0, 0, 0)) (by with_unfolding_all rfl) rfl (by with_unfolding_all rfl)
set_option maxRecDepth 20000 in
theorem b_131i16_0 {d nS : Nat} {M : am_M} {Q : Option Value → am_H → Prop} : am_Wp (d + 1) 131 0 [.ref 28, .ref 111] [] (hp nS M) Q = am_Wp d 296 0 [.int 10, .int 10] [] (hp nS M) (fun v h1 => am_Wp (d + 1) 131 11 [.ref 28, .ref 111] (am_ans v [.int 0, .ref 111, .int 0, .ref 28]) h1 Q) := by
  refine (eq_run 8 (q := (8, [.ref 28, .ref 111], [.int 10, .int 10, .int 0, .ref 111, .int 0, .ref 28], hp nS M)) (by with_unfolding_all rfl)).trans ?_
  exact eq_call2 (e := (.invokestatic 359, 3, 1, 296, 65)) (as := [.int 10, .int 10]) (r := [.int 0, .ref 111, .int 0, .ref 28]) (n := 2) (m := 2) (by with_unfolding_all rfl) rfl (by decide) (by with_unfolding_all rfl) (by decide) (by with_unfolding_all rfl) ⟨fun z => absurd z (by decide), fun z => by simp at z⟩
-- b_131i16_11: copy
theorem k_28_111 {d nS : Nat} {M : am_M} {Q : Option Value → am_H → Prop} : am_Wp (d + 1) 131 0 [.ref 28, .ref 111] [] (hp nS M) Q = Q none (hp nS (am_row M 111 (va_cpy (M 28) (M 111) 0 0 10))) := by
  rw [b_131i16_0, c_296, am_ans_some, show (if (10 : Int32) < 10 then (10 : Int32) else 10) = 10 from rfl]
  refine (eq_copy2 (e := (.invokestatic 362, 3, 6, 0, 66)) (na := 10) (nb := 10) (by with_unfolding_all rfl) rfl rfl (by with_unfolding_all rfl) (by with_unfolding_all rfl) (by decide) (by decide) (by decide) ⟨by decide, by decide, by decide⟩).trans ?_
  exact eq_retV2 (e := (.return_, 1, 0, 0, 0)) (by with_unfolding_all rfl) rfl (by with_unfolding_all rfl)
set_option maxRecDepth 20000 in
theorem b_131i17_0 {d nS : Nat} {M : am_M} {Q : Option Value → am_H → Prop} : am_Wp (d + 1) 131 0 [.ref 29, .ref 112] [] (hp nS M) Q = am_Wp d 296 0 [.int 80, .int 80] [] (hp nS M) (fun v h1 => am_Wp (d + 1) 131 11 [.ref 29, .ref 112] (am_ans v [.int 0, .ref 112, .int 0, .ref 29]) h1 Q) := by
  refine (eq_run 8 (q := (8, [.ref 29, .ref 112], [.int 80, .int 80, .int 0, .ref 112, .int 0, .ref 29], hp nS M)) (by with_unfolding_all rfl)).trans ?_
  exact eq_call2 (e := (.invokestatic 359, 3, 1, 296, 65)) (as := [.int 80, .int 80]) (r := [.int 0, .ref 112, .int 0, .ref 29]) (n := 2) (m := 2) (by with_unfolding_all rfl) rfl (by decide) (by with_unfolding_all rfl) (by decide) (by with_unfolding_all rfl) ⟨fun z => absurd z (by decide), fun z => by simp at z⟩
-- b_131i17_11: copy
theorem k_29_112 {d nS : Nat} {M : am_M} {Q : Option Value → am_H → Prop} : am_Wp (d + 1) 131 0 [.ref 29, .ref 112] [] (hp nS M) Q = Q none (hp nS (am_row M 112 (va_cpy (M 29) (M 112) 0 0 80))) := by
  rw [b_131i17_0, c_296, am_ans_some, show (if (80 : Int32) < 80 then (80 : Int32) else 80) = 80 from rfl]
  refine (eq_copy2 (e := (.invokestatic 362, 3, 6, 0, 66)) (na := 80) (nb := 80) (by with_unfolding_all rfl) rfl rfl (by with_unfolding_all rfl) (by with_unfolding_all rfl) (by decide) (by decide) (by decide) ⟨by decide, by decide, by decide⟩).trans ?_
  exact eq_retV2 (e := (.return_, 1, 0, 0, 0)) (by with_unfolding_all rfl) rfl (by with_unfolding_all rfl)
set_option maxRecDepth 20000 in
theorem b_131i18_0 {d nS : Nat} {M : am_M} {Q : Option Value → am_H → Prop} : am_Wp (d + 1) 131 0 [.ref 46, .ref 47] [] (hp nS M) Q = am_Wp d 296 0 [.int 14, .int 14] [] (hp nS M) (fun v h1 => am_Wp (d + 1) 131 11 [.ref 46, .ref 47] (am_ans v [.int 0, .ref 47, .int 0, .ref 46]) h1 Q) := by
  refine (eq_run 8 (q := (8, [.ref 46, .ref 47], [.int 14, .int 14, .int 0, .ref 47, .int 0, .ref 46], hp nS M)) (by with_unfolding_all rfl)).trans ?_
  exact eq_call2 (e := (.invokestatic 359, 3, 1, 296, 65)) (as := [.int 14, .int 14]) (r := [.int 0, .ref 47, .int 0, .ref 46]) (n := 2) (m := 2) (by with_unfolding_all rfl) rfl (by decide) (by with_unfolding_all rfl) (by decide) (by with_unfolding_all rfl) ⟨fun z => absurd z (by decide), fun z => by simp at z⟩
-- b_131i18_11: copy
theorem k_46_47 {d nS : Nat} {M : am_M} {Q : Option Value → am_H → Prop} : am_Wp (d + 1) 131 0 [.ref 46, .ref 47] [] (hp nS M) Q = Q none (hp nS (am_row M 47 (va_cpy (M 46) (M 47) 0 0 14))) := by
  rw [b_131i18_0, c_296, am_ans_some, show (if (14 : Int32) < 14 then (14 : Int32) else 14) = 14 from rfl]
  refine (eq_copy2 (e := (.invokestatic 362, 3, 6, 0, 66)) (na := 14) (nb := 14) (by with_unfolding_all rfl) rfl rfl (by with_unfolding_all rfl) (by with_unfolding_all rfl) (by decide) (by decide) (by decide) ⟨by decide, by decide, by decide⟩).trans ?_
  exact eq_retV2 (e := (.return_, 1, 0, 0, 0)) (by with_unfolding_all rfl) rfl (by with_unfolding_all rfl)
set_option maxRecDepth 20000 in
theorem b_131i19_0 {d nS : Nat} {M : am_M} {Q : Option Value → am_H → Prop} : am_Wp (d + 1) 131 0 [.ref 30, .ref 72] [] (hp nS M) Q = am_Wp d 296 0 [.int 600, .int 600] [] (hp nS M) (fun v h1 => am_Wp (d + 1) 131 11 [.ref 30, .ref 72] (am_ans v [.int 0, .ref 72, .int 0, .ref 30]) h1 Q) := by
  refine (eq_run 8 (q := (8, [.ref 30, .ref 72], [.int 600, .int 600, .int 0, .ref 72, .int 0, .ref 30], hp nS M)) (by with_unfolding_all rfl)).trans ?_
  exact eq_call2 (e := (.invokestatic 359, 3, 1, 296, 65)) (as := [.int 600, .int 600]) (r := [.int 0, .ref 72, .int 0, .ref 30]) (n := 2) (m := 2) (by with_unfolding_all rfl) rfl (by decide) (by with_unfolding_all rfl) (by decide) (by with_unfolding_all rfl) ⟨fun z => absurd z (by decide), fun z => by simp at z⟩
-- b_131i19_11: copy
theorem k_30_72 {d nS : Nat} {M : am_M} {Q : Option Value → am_H → Prop} : am_Wp (d + 1) 131 0 [.ref 30, .ref 72] [] (hp nS M) Q = Q none (hp nS (am_row M 72 (va_cpy (M 30) (M 72) 0 0 600))) := by
  rw [b_131i19_0, c_296, am_ans_some, show (if (600 : Int32) < 600 then (600 : Int32) else 600) = 600 from rfl]
  refine (eq_copy2 (e := (.invokestatic 362, 3, 6, 0, 66)) (na := 600) (nb := 600) (by with_unfolding_all rfl) rfl rfl (by with_unfolding_all rfl) (by with_unfolding_all rfl) (by decide) (by decide) (by decide) ⟨by decide, by decide, by decide⟩).trans ?_
  exact eq_retV2 (e := (.return_, 1, 0, 0, 0)) (by with_unfolding_all rfl) rfl (by with_unfolding_all rfl)
set_option maxRecDepth 20000 in
theorem b_131i20_0 {d nS : Nat} {M : am_M} {Q : Option Value → am_H → Prop} : am_Wp (d + 1) 131 0 [.ref 72, .ref 30] [] (hp nS M) Q = am_Wp d 296 0 [.int 600, .int 600] [] (hp nS M) (fun v h1 => am_Wp (d + 1) 131 11 [.ref 72, .ref 30] (am_ans v [.int 0, .ref 30, .int 0, .ref 72]) h1 Q) := by
  refine (eq_run 8 (q := (8, [.ref 72, .ref 30], [.int 600, .int 600, .int 0, .ref 30, .int 0, .ref 72], hp nS M)) (by with_unfolding_all rfl)).trans ?_
  exact eq_call2 (e := (.invokestatic 359, 3, 1, 296, 65)) (as := [.int 600, .int 600]) (r := [.int 0, .ref 30, .int 0, .ref 72]) (n := 2) (m := 2) (by with_unfolding_all rfl) rfl (by decide) (by with_unfolding_all rfl) (by decide) (by with_unfolding_all rfl) ⟨fun z => absurd z (by decide), fun z => by simp at z⟩
-- b_131i20_11: copy
theorem k_72_30 {d nS : Nat} {M : am_M} {Q : Option Value → am_H → Prop} : am_Wp (d + 1) 131 0 [.ref 72, .ref 30] [] (hp nS M) Q = Q none (hp nS (am_row M 30 (va_cpy (M 72) (M 30) 0 0 600))) := by
  rw [b_131i20_0, c_296, am_ans_some, show (if (600 : Int32) < 600 then (600 : Int32) else 600) = 600 from rfl]
  refine (eq_copy2 (e := (.invokestatic 362, 3, 6, 0, 66)) (na := 600) (nb := 600) (by with_unfolding_all rfl) rfl rfl (by with_unfolding_all rfl) (by with_unfolding_all rfl) (by decide) (by decide) (by decide) ⟨by decide, by decide, by decide⟩).trans ?_
  exact eq_retV2 (e := (.return_, 1, 0, 0, 0)) (by with_unfolding_all rfl) rfl (by with_unfolding_all rfl)
set_option maxRecDepth 20000 in
theorem b_131i21_0 {d nS : Nat} {M : am_M} {Q : Option Value → am_H → Prop} : am_Wp (d + 1) 131 0 [.ref 19, .ref 176] [] (hp nS M) Q = am_Wp d 296 0 [.int 6, .int 6] [] (hp nS M) (fun v h1 => am_Wp (d + 1) 131 11 [.ref 19, .ref 176] (am_ans v [.int 0, .ref 176, .int 0, .ref 19]) h1 Q) := by
  refine (eq_run 8 (q := (8, [.ref 19, .ref 176], [.int 6, .int 6, .int 0, .ref 176, .int 0, .ref 19], hp nS M)) (by with_unfolding_all rfl)).trans ?_
  exact eq_call2 (e := (.invokestatic 359, 3, 1, 296, 65)) (as := [.int 6, .int 6]) (r := [.int 0, .ref 176, .int 0, .ref 19]) (n := 2) (m := 2) (by with_unfolding_all rfl) rfl (by decide) (by with_unfolding_all rfl) (by decide) (by with_unfolding_all rfl) ⟨fun z => absurd z (by decide), fun z => by simp at z⟩
-- b_131i21_11: copy
theorem k_19_176 {d nS : Nat} {M : am_M} {Q : Option Value → am_H → Prop} : am_Wp (d + 1) 131 0 [.ref 19, .ref 176] [] (hp nS M) Q = Q none (hp nS (am_row M 176 (va_cpy (M 19) (M 176) 0 0 6))) := by
  rw [b_131i21_0, c_296, am_ans_some, show (if (6 : Int32) < 6 then (6 : Int32) else 6) = 6 from rfl]
  refine (eq_copy2 (e := (.invokestatic 362, 3, 6, 0, 66)) (na := 6) (nb := 6) (by with_unfolding_all rfl) rfl rfl (by with_unfolding_all rfl) (by with_unfolding_all rfl) (by decide) (by decide) (by decide) ⟨by decide, by decide, by decide⟩).trans ?_
  exact eq_retV2 (e := (.return_, 1, 0, 0, 0)) (by with_unfolding_all rfl) rfl (by with_unfolding_all rfl)
set_option maxRecDepth 20000 in
theorem b_131i22_0 {d nS : Nat} {M : am_M} {Q : Option Value → am_H → Prop} : am_Wp (d + 1) 131 0 [.ref 20, .ref 177] [] (hp nS M) Q = am_Wp d 296 0 [.int 6, .int 6] [] (hp nS M) (fun v h1 => am_Wp (d + 1) 131 11 [.ref 20, .ref 177] (am_ans v [.int 0, .ref 177, .int 0, .ref 20]) h1 Q) := by
  refine (eq_run 8 (q := (8, [.ref 20, .ref 177], [.int 6, .int 6, .int 0, .ref 177, .int 0, .ref 20], hp nS M)) (by with_unfolding_all rfl)).trans ?_
  exact eq_call2 (e := (.invokestatic 359, 3, 1, 296, 65)) (as := [.int 6, .int 6]) (r := [.int 0, .ref 177, .int 0, .ref 20]) (n := 2) (m := 2) (by with_unfolding_all rfl) rfl (by decide) (by with_unfolding_all rfl) (by decide) (by with_unfolding_all rfl) ⟨fun z => absurd z (by decide), fun z => by simp at z⟩
-- b_131i22_11: copy
theorem k_20_177 {d nS : Nat} {M : am_M} {Q : Option Value → am_H → Prop} : am_Wp (d + 1) 131 0 [.ref 20, .ref 177] [] (hp nS M) Q = Q none (hp nS (am_row M 177 (va_cpy (M 20) (M 177) 0 0 6))) := by
  rw [b_131i22_0, c_296, am_ans_some, show (if (6 : Int32) < 6 then (6 : Int32) else 6) = 6 from rfl]
  refine (eq_copy2 (e := (.invokestatic 362, 3, 6, 0, 66)) (na := 6) (nb := 6) (by with_unfolding_all rfl) rfl rfl (by with_unfolding_all rfl) (by with_unfolding_all rfl) (by decide) (by decide) (by decide) ⟨by decide, by decide, by decide⟩).trans ?_
  exact eq_retV2 (e := (.return_, 1, 0, 0, 0)) (by with_unfolding_all rfl) rfl (by with_unfolding_all rfl)
set_option maxRecDepth 20000 in
theorem b_131i23_0 {d nS : Nat} {M : am_M} {Q : Option Value → am_H → Prop} : am_Wp (d + 1) 131 0 [.ref 21, .ref 178] [] (hp nS M) Q = am_Wp d 296 0 [.int 6, .int 6] [] (hp nS M) (fun v h1 => am_Wp (d + 1) 131 11 [.ref 21, .ref 178] (am_ans v [.int 0, .ref 178, .int 0, .ref 21]) h1 Q) := by
  refine (eq_run 8 (q := (8, [.ref 21, .ref 178], [.int 6, .int 6, .int 0, .ref 178, .int 0, .ref 21], hp nS M)) (by with_unfolding_all rfl)).trans ?_
  exact eq_call2 (e := (.invokestatic 359, 3, 1, 296, 65)) (as := [.int 6, .int 6]) (r := [.int 0, .ref 178, .int 0, .ref 21]) (n := 2) (m := 2) (by with_unfolding_all rfl) rfl (by decide) (by with_unfolding_all rfl) (by decide) (by with_unfolding_all rfl) ⟨fun z => absurd z (by decide), fun z => by simp at z⟩
-- b_131i23_11: copy
theorem k_21_178 {d nS : Nat} {M : am_M} {Q : Option Value → am_H → Prop} : am_Wp (d + 1) 131 0 [.ref 21, .ref 178] [] (hp nS M) Q = Q none (hp nS (am_row M 178 (va_cpy (M 21) (M 178) 0 0 6))) := by
  rw [b_131i23_0, c_296, am_ans_some, show (if (6 : Int32) < 6 then (6 : Int32) else 6) = 6 from rfl]
  refine (eq_copy2 (e := (.invokestatic 362, 3, 6, 0, 66)) (na := 6) (nb := 6) (by with_unfolding_all rfl) rfl rfl (by with_unfolding_all rfl) (by with_unfolding_all rfl) (by decide) (by decide) (by decide) ⟨by decide, by decide, by decide⟩).trans ?_
  exact eq_retV2 (e := (.return_, 1, 0, 0, 0)) (by with_unfolding_all rfl) rfl (by with_unfolding_all rfl)
set_option maxRecDepth 20000 in
theorem b_131i24_0 {d nS : Nat} {M : am_M} {Q : Option Value → am_H → Prop} : am_Wp (d + 1) 131 0 [.ref 22, .ref 179] [] (hp nS M) Q = am_Wp d 296 0 [.int 6, .int 6] [] (hp nS M) (fun v h1 => am_Wp (d + 1) 131 11 [.ref 22, .ref 179] (am_ans v [.int 0, .ref 179, .int 0, .ref 22]) h1 Q) := by
  refine (eq_run 8 (q := (8, [.ref 22, .ref 179], [.int 6, .int 6, .int 0, .ref 179, .int 0, .ref 22], hp nS M)) (by with_unfolding_all rfl)).trans ?_
  exact eq_call2 (e := (.invokestatic 359, 3, 1, 296, 65)) (as := [.int 6, .int 6]) (r := [.int 0, .ref 179, .int 0, .ref 22]) (n := 2) (m := 2) (by with_unfolding_all rfl) rfl (by decide) (by with_unfolding_all rfl) (by decide) (by with_unfolding_all rfl) ⟨fun z => absurd z (by decide), fun z => by simp at z⟩
-- b_131i24_11: copy
theorem k_22_179 {d nS : Nat} {M : am_M} {Q : Option Value → am_H → Prop} : am_Wp (d + 1) 131 0 [.ref 22, .ref 179] [] (hp nS M) Q = Q none (hp nS (am_row M 179 (va_cpy (M 22) (M 179) 0 0 6))) := by
  rw [b_131i24_0, c_296, am_ans_some, show (if (6 : Int32) < 6 then (6 : Int32) else 6) = 6 from rfl]
  refine (eq_copy2 (e := (.invokestatic 362, 3, 6, 0, 66)) (na := 6) (nb := 6) (by with_unfolding_all rfl) rfl rfl (by with_unfolding_all rfl) (by with_unfolding_all rfl) (by decide) (by decide) (by decide) ⟨by decide, by decide, by decide⟩).trans ?_
  exact eq_retV2 (e := (.return_, 1, 0, 0, 0)) (by with_unfolding_all rfl) rfl (by with_unfolding_all rfl)
set_option maxRecDepth 20000 in
theorem b_131i25_0 {d nS : Nat} {M : am_M} {Q : Option Value → am_H → Prop} : am_Wp (d + 1) 131 0 [.ref 23, .ref 180] [] (hp nS M) Q = am_Wp d 296 0 [.int 6, .int 6] [] (hp nS M) (fun v h1 => am_Wp (d + 1) 131 11 [.ref 23, .ref 180] (am_ans v [.int 0, .ref 180, .int 0, .ref 23]) h1 Q) := by
  refine (eq_run 8 (q := (8, [.ref 23, .ref 180], [.int 6, .int 6, .int 0, .ref 180, .int 0, .ref 23], hp nS M)) (by with_unfolding_all rfl)).trans ?_
  exact eq_call2 (e := (.invokestatic 359, 3, 1, 296, 65)) (as := [.int 6, .int 6]) (r := [.int 0, .ref 180, .int 0, .ref 23]) (n := 2) (m := 2) (by with_unfolding_all rfl) rfl (by decide) (by with_unfolding_all rfl) (by decide) (by with_unfolding_all rfl) ⟨fun z => absurd z (by decide), fun z => by simp at z⟩
-- b_131i25_11: copy
theorem k_23_180 {d nS : Nat} {M : am_M} {Q : Option Value → am_H → Prop} : am_Wp (d + 1) 131 0 [.ref 23, .ref 180] [] (hp nS M) Q = Q none (hp nS (am_row M 180 (va_cpy (M 23) (M 180) 0 0 6))) := by
  rw [b_131i25_0, c_296, am_ans_some, show (if (6 : Int32) < 6 then (6 : Int32) else 6) = 6 from rfl]
  refine (eq_copy2 (e := (.invokestatic 362, 3, 6, 0, 66)) (na := 6) (nb := 6) (by with_unfolding_all rfl) rfl rfl (by with_unfolding_all rfl) (by with_unfolding_all rfl) (by decide) (by decide) (by decide) ⟨by decide, by decide, by decide⟩).trans ?_
  exact eq_retV2 (e := (.return_, 1, 0, 0, 0)) (by with_unfolding_all rfl) rfl (by with_unfolding_all rfl)
set_option maxRecDepth 20000 in
theorem b_131i26_0 {d nS : Nat} {M : am_M} {Q : Option Value → am_H → Prop} : am_Wp (d + 1) 131 0 [.ref 24, .ref 181] [] (hp nS M) Q = am_Wp d 296 0 [.int 8, .int 8] [] (hp nS M) (fun v h1 => am_Wp (d + 1) 131 11 [.ref 24, .ref 181] (am_ans v [.int 0, .ref 181, .int 0, .ref 24]) h1 Q) := by
  refine (eq_run 8 (q := (8, [.ref 24, .ref 181], [.int 8, .int 8, .int 0, .ref 181, .int 0, .ref 24], hp nS M)) (by with_unfolding_all rfl)).trans ?_
  exact eq_call2 (e := (.invokestatic 359, 3, 1, 296, 65)) (as := [.int 8, .int 8]) (r := [.int 0, .ref 181, .int 0, .ref 24]) (n := 2) (m := 2) (by with_unfolding_all rfl) rfl (by decide) (by with_unfolding_all rfl) (by decide) (by with_unfolding_all rfl) ⟨fun z => absurd z (by decide), fun z => by simp at z⟩
-- b_131i26_11: copy
theorem k_24_181 {d nS : Nat} {M : am_M} {Q : Option Value → am_H → Prop} : am_Wp (d + 1) 131 0 [.ref 24, .ref 181] [] (hp nS M) Q = Q none (hp nS (am_row M 181 (va_cpy (M 24) (M 181) 0 0 8))) := by
  rw [b_131i26_0, c_296, am_ans_some, show (if (8 : Int32) < 8 then (8 : Int32) else 8) = 8 from rfl]
  refine (eq_copy2 (e := (.invokestatic 362, 3, 6, 0, 66)) (na := 8) (nb := 8) (by with_unfolding_all rfl) rfl rfl (by with_unfolding_all rfl) (by with_unfolding_all rfl) (by decide) (by decide) (by decide) ⟨by decide, by decide, by decide⟩).trans ?_
  exact eq_retV2 (e := (.return_, 1, 0, 0, 0)) (by with_unfolding_all rfl) rfl (by with_unfolding_all rfl)
set_option maxRecDepth 20000 in
theorem b_131i27_0 {d nS : Nat} {M : am_M} {Q : Option Value → am_H → Prop} : am_Wp (d + 1) 131 0 [.ref 25, .ref 182] [] (hp nS M) Q = am_Wp d 296 0 [.int 8, .int 8] [] (hp nS M) (fun v h1 => am_Wp (d + 1) 131 11 [.ref 25, .ref 182] (am_ans v [.int 0, .ref 182, .int 0, .ref 25]) h1 Q) := by
  refine (eq_run 8 (q := (8, [.ref 25, .ref 182], [.int 8, .int 8, .int 0, .ref 182, .int 0, .ref 25], hp nS M)) (by with_unfolding_all rfl)).trans ?_
  exact eq_call2 (e := (.invokestatic 359, 3, 1, 296, 65)) (as := [.int 8, .int 8]) (r := [.int 0, .ref 182, .int 0, .ref 25]) (n := 2) (m := 2) (by with_unfolding_all rfl) rfl (by decide) (by with_unfolding_all rfl) (by decide) (by with_unfolding_all rfl) ⟨fun z => absurd z (by decide), fun z => by simp at z⟩
-- b_131i27_11: copy
theorem k_25_182 {d nS : Nat} {M : am_M} {Q : Option Value → am_H → Prop} : am_Wp (d + 1) 131 0 [.ref 25, .ref 182] [] (hp nS M) Q = Q none (hp nS (am_row M 182 (va_cpy (M 25) (M 182) 0 0 8))) := by
  rw [b_131i27_0, c_296, am_ans_some, show (if (8 : Int32) < 8 then (8 : Int32) else 8) = 8 from rfl]
  refine (eq_copy2 (e := (.invokestatic 362, 3, 6, 0, 66)) (na := 8) (nb := 8) (by with_unfolding_all rfl) rfl rfl (by with_unfolding_all rfl) (by with_unfolding_all rfl) (by decide) (by decide) (by decide) ⟨by decide, by decide, by decide⟩).trans ?_
  exact eq_retV2 (e := (.return_, 1, 0, 0, 0)) (by with_unfolding_all rfl) rfl (by with_unfolding_all rfl)
set_option maxRecDepth 20000 in
theorem b_131i28_0 {d nS : Nat} {M : am_M} {Q : Option Value → am_H → Prop} : am_Wp (d + 1) 131 0 [.ref 26, .ref 183] [] (hp nS M) Q = am_Wp d 296 0 [.int 8, .int 8] [] (hp nS M) (fun v h1 => am_Wp (d + 1) 131 11 [.ref 26, .ref 183] (am_ans v [.int 0, .ref 183, .int 0, .ref 26]) h1 Q) := by
  refine (eq_run 8 (q := (8, [.ref 26, .ref 183], [.int 8, .int 8, .int 0, .ref 183, .int 0, .ref 26], hp nS M)) (by with_unfolding_all rfl)).trans ?_
  exact eq_call2 (e := (.invokestatic 359, 3, 1, 296, 65)) (as := [.int 8, .int 8]) (r := [.int 0, .ref 183, .int 0, .ref 26]) (n := 2) (m := 2) (by with_unfolding_all rfl) rfl (by decide) (by with_unfolding_all rfl) (by decide) (by with_unfolding_all rfl) ⟨fun z => absurd z (by decide), fun z => by simp at z⟩
-- b_131i28_11: copy
theorem k_26_183 {d nS : Nat} {M : am_M} {Q : Option Value → am_H → Prop} : am_Wp (d + 1) 131 0 [.ref 26, .ref 183] [] (hp nS M) Q = Q none (hp nS (am_row M 183 (va_cpy (M 26) (M 183) 0 0 8))) := by
  rw [b_131i28_0, c_296, am_ans_some, show (if (8 : Int32) < 8 then (8 : Int32) else 8) = 8 from rfl]
  refine (eq_copy2 (e := (.invokestatic 362, 3, 6, 0, 66)) (na := 8) (nb := 8) (by with_unfolding_all rfl) rfl rfl (by with_unfolding_all rfl) (by with_unfolding_all rfl) (by decide) (by decide) (by decide) ⟨by decide, by decide, by decide⟩).trans ?_
  exact eq_retV2 (e := (.return_, 1, 0, 0, 0)) (by with_unfolding_all rfl) rfl (by with_unfolding_all rfl)
set_option maxRecDepth 20000 in
theorem b_131i29_0 {d nS : Nat} {M : am_M} {Q : Option Value → am_H → Prop} : am_Wp (d + 1) 131 0 [.ref 27, .ref 184] [] (hp nS M) Q = am_Wp d 296 0 [.int 10, .int 10] [] (hp nS M) (fun v h1 => am_Wp (d + 1) 131 11 [.ref 27, .ref 184] (am_ans v [.int 0, .ref 184, .int 0, .ref 27]) h1 Q) := by
  refine (eq_run 8 (q := (8, [.ref 27, .ref 184], [.int 10, .int 10, .int 0, .ref 184, .int 0, .ref 27], hp nS M)) (by with_unfolding_all rfl)).trans ?_
  exact eq_call2 (e := (.invokestatic 359, 3, 1, 296, 65)) (as := [.int 10, .int 10]) (r := [.int 0, .ref 184, .int 0, .ref 27]) (n := 2) (m := 2) (by with_unfolding_all rfl) rfl (by decide) (by with_unfolding_all rfl) (by decide) (by with_unfolding_all rfl) ⟨fun z => absurd z (by decide), fun z => by simp at z⟩
-- b_131i29_11: copy
theorem k_27_184 {d nS : Nat} {M : am_M} {Q : Option Value → am_H → Prop} : am_Wp (d + 1) 131 0 [.ref 27, .ref 184] [] (hp nS M) Q = Q none (hp nS (am_row M 184 (va_cpy (M 27) (M 184) 0 0 10))) := by
  rw [b_131i29_0, c_296, am_ans_some, show (if (10 : Int32) < 10 then (10 : Int32) else 10) = 10 from rfl]
  refine (eq_copy2 (e := (.invokestatic 362, 3, 6, 0, 66)) (na := 10) (nb := 10) (by with_unfolding_all rfl) rfl rfl (by with_unfolding_all rfl) (by with_unfolding_all rfl) (by decide) (by decide) (by decide) ⟨by decide, by decide, by decide⟩).trans ?_
  exact eq_retV2 (e := (.return_, 1, 0, 0, 0)) (by with_unfolding_all rfl) rfl (by with_unfolding_all rfl)
set_option maxRecDepth 20000 in
theorem b_131i30_0 {d nS : Nat} {M : am_M} {Q : Option Value → am_H → Prop} : am_Wp (d + 1) 131 0 [.ref 28, .ref 185] [] (hp nS M) Q = am_Wp d 296 0 [.int 10, .int 10] [] (hp nS M) (fun v h1 => am_Wp (d + 1) 131 11 [.ref 28, .ref 185] (am_ans v [.int 0, .ref 185, .int 0, .ref 28]) h1 Q) := by
  refine (eq_run 8 (q := (8, [.ref 28, .ref 185], [.int 10, .int 10, .int 0, .ref 185, .int 0, .ref 28], hp nS M)) (by with_unfolding_all rfl)).trans ?_
  exact eq_call2 (e := (.invokestatic 359, 3, 1, 296, 65)) (as := [.int 10, .int 10]) (r := [.int 0, .ref 185, .int 0, .ref 28]) (n := 2) (m := 2) (by with_unfolding_all rfl) rfl (by decide) (by with_unfolding_all rfl) (by decide) (by with_unfolding_all rfl) ⟨fun z => absurd z (by decide), fun z => by simp at z⟩
-- b_131i30_11: copy
theorem k_28_185 {d nS : Nat} {M : am_M} {Q : Option Value → am_H → Prop} : am_Wp (d + 1) 131 0 [.ref 28, .ref 185] [] (hp nS M) Q = Q none (hp nS (am_row M 185 (va_cpy (M 28) (M 185) 0 0 10))) := by
  rw [b_131i30_0, c_296, am_ans_some, show (if (10 : Int32) < 10 then (10 : Int32) else 10) = 10 from rfl]
  refine (eq_copy2 (e := (.invokestatic 362, 3, 6, 0, 66)) (na := 10) (nb := 10) (by with_unfolding_all rfl) rfl rfl (by with_unfolding_all rfl) (by with_unfolding_all rfl) (by decide) (by decide) (by decide) ⟨by decide, by decide, by decide⟩).trans ?_
  exact eq_retV2 (e := (.return_, 1, 0, 0, 0)) (by with_unfolding_all rfl) rfl (by with_unfolding_all rfl)
set_option maxRecDepth 20000 in
theorem b_131i31_0 {d nS : Nat} {M : am_M} {Q : Option Value → am_H → Prop} : am_Wp (d + 1) 131 0 [.ref 29, .ref 186] [] (hp nS M) Q = am_Wp d 296 0 [.int 80, .int 80] [] (hp nS M) (fun v h1 => am_Wp (d + 1) 131 11 [.ref 29, .ref 186] (am_ans v [.int 0, .ref 186, .int 0, .ref 29]) h1 Q) := by
  refine (eq_run 8 (q := (8, [.ref 29, .ref 186], [.int 80, .int 80, .int 0, .ref 186, .int 0, .ref 29], hp nS M)) (by with_unfolding_all rfl)).trans ?_
  exact eq_call2 (e := (.invokestatic 359, 3, 1, 296, 65)) (as := [.int 80, .int 80]) (r := [.int 0, .ref 186, .int 0, .ref 29]) (n := 2) (m := 2) (by with_unfolding_all rfl) rfl (by decide) (by with_unfolding_all rfl) (by decide) (by with_unfolding_all rfl) ⟨fun z => absurd z (by decide), fun z => by simp at z⟩
-- b_131i31_11: copy
theorem k_29_186 {d nS : Nat} {M : am_M} {Q : Option Value → am_H → Prop} : am_Wp (d + 1) 131 0 [.ref 29, .ref 186] [] (hp nS M) Q = Q none (hp nS (am_row M 186 (va_cpy (M 29) (M 186) 0 0 80))) := by
  rw [b_131i31_0, c_296, am_ans_some, show (if (80 : Int32) < 80 then (80 : Int32) else 80) = 80 from rfl]
  refine (eq_copy2 (e := (.invokestatic 362, 3, 6, 0, 66)) (na := 80) (nb := 80) (by with_unfolding_all rfl) rfl rfl (by with_unfolding_all rfl) (by with_unfolding_all rfl) (by decide) (by decide) (by decide) ⟨by decide, by decide, by decide⟩).trans ?_
  exact eq_retV2 (e := (.return_, 1, 0, 0, 0)) (by with_unfolding_all rfl) rfl (by with_unfolding_all rfl)
set_option maxRecDepth 20000 in
theorem b_131i32_0 {d nS : Nat} {M : am_M} {Q : Option Value → am_H → Prop} : am_Wp (d + 1) 131 0 [.ref 19, .ref 164] [] (hp nS M) Q = am_Wp d 296 0 [.int 6, .int 6] [] (hp nS M) (fun v h1 => am_Wp (d + 1) 131 11 [.ref 19, .ref 164] (am_ans v [.int 0, .ref 164, .int 0, .ref 19]) h1 Q) := by
  refine (eq_run 8 (q := (8, [.ref 19, .ref 164], [.int 6, .int 6, .int 0, .ref 164, .int 0, .ref 19], hp nS M)) (by with_unfolding_all rfl)).trans ?_
  exact eq_call2 (e := (.invokestatic 359, 3, 1, 296, 65)) (as := [.int 6, .int 6]) (r := [.int 0, .ref 164, .int 0, .ref 19]) (n := 2) (m := 2) (by with_unfolding_all rfl) rfl (by decide) (by with_unfolding_all rfl) (by decide) (by with_unfolding_all rfl) ⟨fun z => absurd z (by decide), fun z => by simp at z⟩
-- b_131i32_11: copy
theorem k_19_164 {d nS : Nat} {M : am_M} {Q : Option Value → am_H → Prop} : am_Wp (d + 1) 131 0 [.ref 19, .ref 164] [] (hp nS M) Q = Q none (hp nS (am_row M 164 (va_cpy (M 19) (M 164) 0 0 6))) := by
  rw [b_131i32_0, c_296, am_ans_some, show (if (6 : Int32) < 6 then (6 : Int32) else 6) = 6 from rfl]
  refine (eq_copy2 (e := (.invokestatic 362, 3, 6, 0, 66)) (na := 6) (nb := 6) (by with_unfolding_all rfl) rfl rfl (by with_unfolding_all rfl) (by with_unfolding_all rfl) (by decide) (by decide) (by decide) ⟨by decide, by decide, by decide⟩).trans ?_
  exact eq_retV2 (e := (.return_, 1, 0, 0, 0)) (by with_unfolding_all rfl) rfl (by with_unfolding_all rfl)
set_option maxRecDepth 20000 in
theorem b_131i33_0 {d nS : Nat} {M : am_M} {Q : Option Value → am_H → Prop} : am_Wp (d + 1) 131 0 [.ref 20, .ref 165] [] (hp nS M) Q = am_Wp d 296 0 [.int 6, .int 6] [] (hp nS M) (fun v h1 => am_Wp (d + 1) 131 11 [.ref 20, .ref 165] (am_ans v [.int 0, .ref 165, .int 0, .ref 20]) h1 Q) := by
  refine (eq_run 8 (q := (8, [.ref 20, .ref 165], [.int 6, .int 6, .int 0, .ref 165, .int 0, .ref 20], hp nS M)) (by with_unfolding_all rfl)).trans ?_
  exact eq_call2 (e := (.invokestatic 359, 3, 1, 296, 65)) (as := [.int 6, .int 6]) (r := [.int 0, .ref 165, .int 0, .ref 20]) (n := 2) (m := 2) (by with_unfolding_all rfl) rfl (by decide) (by with_unfolding_all rfl) (by decide) (by with_unfolding_all rfl) ⟨fun z => absurd z (by decide), fun z => by simp at z⟩
-- b_131i33_11: copy
theorem k_20_165 {d nS : Nat} {M : am_M} {Q : Option Value → am_H → Prop} : am_Wp (d + 1) 131 0 [.ref 20, .ref 165] [] (hp nS M) Q = Q none (hp nS (am_row M 165 (va_cpy (M 20) (M 165) 0 0 6))) := by
  rw [b_131i33_0, c_296, am_ans_some, show (if (6 : Int32) < 6 then (6 : Int32) else 6) = 6 from rfl]
  refine (eq_copy2 (e := (.invokestatic 362, 3, 6, 0, 66)) (na := 6) (nb := 6) (by with_unfolding_all rfl) rfl rfl (by with_unfolding_all rfl) (by with_unfolding_all rfl) (by decide) (by decide) (by decide) ⟨by decide, by decide, by decide⟩).trans ?_
  exact eq_retV2 (e := (.return_, 1, 0, 0, 0)) (by with_unfolding_all rfl) rfl (by with_unfolding_all rfl)
set_option maxRecDepth 20000 in
theorem b_131i34_0 {d nS : Nat} {M : am_M} {Q : Option Value → am_H → Prop} : am_Wp (d + 1) 131 0 [.ref 21, .ref 166] [] (hp nS M) Q = am_Wp d 296 0 [.int 6, .int 6] [] (hp nS M) (fun v h1 => am_Wp (d + 1) 131 11 [.ref 21, .ref 166] (am_ans v [.int 0, .ref 166, .int 0, .ref 21]) h1 Q) := by
  refine (eq_run 8 (q := (8, [.ref 21, .ref 166], [.int 6, .int 6, .int 0, .ref 166, .int 0, .ref 21], hp nS M)) (by with_unfolding_all rfl)).trans ?_
  exact eq_call2 (e := (.invokestatic 359, 3, 1, 296, 65)) (as := [.int 6, .int 6]) (r := [.int 0, .ref 166, .int 0, .ref 21]) (n := 2) (m := 2) (by with_unfolding_all rfl) rfl (by decide) (by with_unfolding_all rfl) (by decide) (by with_unfolding_all rfl) ⟨fun z => absurd z (by decide), fun z => by simp at z⟩
-- b_131i34_11: copy
theorem k_21_166 {d nS : Nat} {M : am_M} {Q : Option Value → am_H → Prop} : am_Wp (d + 1) 131 0 [.ref 21, .ref 166] [] (hp nS M) Q = Q none (hp nS (am_row M 166 (va_cpy (M 21) (M 166) 0 0 6))) := by
  rw [b_131i34_0, c_296, am_ans_some, show (if (6 : Int32) < 6 then (6 : Int32) else 6) = 6 from rfl]
  refine (eq_copy2 (e := (.invokestatic 362, 3, 6, 0, 66)) (na := 6) (nb := 6) (by with_unfolding_all rfl) rfl rfl (by with_unfolding_all rfl) (by with_unfolding_all rfl) (by decide) (by decide) (by decide) ⟨by decide, by decide, by decide⟩).trans ?_
  exact eq_retV2 (e := (.return_, 1, 0, 0, 0)) (by with_unfolding_all rfl) rfl (by with_unfolding_all rfl)
set_option maxRecDepth 20000 in
theorem b_131i35_0 {d nS : Nat} {M : am_M} {Q : Option Value → am_H → Prop} : am_Wp (d + 1) 131 0 [.ref 22, .ref 167] [] (hp nS M) Q = am_Wp d 296 0 [.int 6, .int 6] [] (hp nS M) (fun v h1 => am_Wp (d + 1) 131 11 [.ref 22, .ref 167] (am_ans v [.int 0, .ref 167, .int 0, .ref 22]) h1 Q) := by
  refine (eq_run 8 (q := (8, [.ref 22, .ref 167], [.int 6, .int 6, .int 0, .ref 167, .int 0, .ref 22], hp nS M)) (by with_unfolding_all rfl)).trans ?_
  exact eq_call2 (e := (.invokestatic 359, 3, 1, 296, 65)) (as := [.int 6, .int 6]) (r := [.int 0, .ref 167, .int 0, .ref 22]) (n := 2) (m := 2) (by with_unfolding_all rfl) rfl (by decide) (by with_unfolding_all rfl) (by decide) (by with_unfolding_all rfl) ⟨fun z => absurd z (by decide), fun z => by simp at z⟩
-- b_131i35_11: copy
theorem k_22_167 {d nS : Nat} {M : am_M} {Q : Option Value → am_H → Prop} : am_Wp (d + 1) 131 0 [.ref 22, .ref 167] [] (hp nS M) Q = Q none (hp nS (am_row M 167 (va_cpy (M 22) (M 167) 0 0 6))) := by
  rw [b_131i35_0, c_296, am_ans_some, show (if (6 : Int32) < 6 then (6 : Int32) else 6) = 6 from rfl]
  refine (eq_copy2 (e := (.invokestatic 362, 3, 6, 0, 66)) (na := 6) (nb := 6) (by with_unfolding_all rfl) rfl rfl (by with_unfolding_all rfl) (by with_unfolding_all rfl) (by decide) (by decide) (by decide) ⟨by decide, by decide, by decide⟩).trans ?_
  exact eq_retV2 (e := (.return_, 1, 0, 0, 0)) (by with_unfolding_all rfl) rfl (by with_unfolding_all rfl)
set_option maxRecDepth 20000 in
theorem b_131i36_0 {d nS : Nat} {M : am_M} {Q : Option Value → am_H → Prop} : am_Wp (d + 1) 131 0 [.ref 23, .ref 168] [] (hp nS M) Q = am_Wp d 296 0 [.int 6, .int 6] [] (hp nS M) (fun v h1 => am_Wp (d + 1) 131 11 [.ref 23, .ref 168] (am_ans v [.int 0, .ref 168, .int 0, .ref 23]) h1 Q) := by
  refine (eq_run 8 (q := (8, [.ref 23, .ref 168], [.int 6, .int 6, .int 0, .ref 168, .int 0, .ref 23], hp nS M)) (by with_unfolding_all rfl)).trans ?_
  exact eq_call2 (e := (.invokestatic 359, 3, 1, 296, 65)) (as := [.int 6, .int 6]) (r := [.int 0, .ref 168, .int 0, .ref 23]) (n := 2) (m := 2) (by with_unfolding_all rfl) rfl (by decide) (by with_unfolding_all rfl) (by decide) (by with_unfolding_all rfl) ⟨fun z => absurd z (by decide), fun z => by simp at z⟩
-- b_131i36_11: copy
theorem k_23_168 {d nS : Nat} {M : am_M} {Q : Option Value → am_H → Prop} : am_Wp (d + 1) 131 0 [.ref 23, .ref 168] [] (hp nS M) Q = Q none (hp nS (am_row M 168 (va_cpy (M 23) (M 168) 0 0 6))) := by
  rw [b_131i36_0, c_296, am_ans_some, show (if (6 : Int32) < 6 then (6 : Int32) else 6) = 6 from rfl]
  refine (eq_copy2 (e := (.invokestatic 362, 3, 6, 0, 66)) (na := 6) (nb := 6) (by with_unfolding_all rfl) rfl rfl (by with_unfolding_all rfl) (by with_unfolding_all rfl) (by decide) (by decide) (by decide) ⟨by decide, by decide, by decide⟩).trans ?_
  exact eq_retV2 (e := (.return_, 1, 0, 0, 0)) (by with_unfolding_all rfl) rfl (by with_unfolding_all rfl)
set_option maxRecDepth 20000 in
theorem b_131i37_0 {d nS : Nat} {M : am_M} {Q : Option Value → am_H → Prop} : am_Wp (d + 1) 131 0 [.ref 24, .ref 169] [] (hp nS M) Q = am_Wp d 296 0 [.int 8, .int 8] [] (hp nS M) (fun v h1 => am_Wp (d + 1) 131 11 [.ref 24, .ref 169] (am_ans v [.int 0, .ref 169, .int 0, .ref 24]) h1 Q) := by
  refine (eq_run 8 (q := (8, [.ref 24, .ref 169], [.int 8, .int 8, .int 0, .ref 169, .int 0, .ref 24], hp nS M)) (by with_unfolding_all rfl)).trans ?_
  exact eq_call2 (e := (.invokestatic 359, 3, 1, 296, 65)) (as := [.int 8, .int 8]) (r := [.int 0, .ref 169, .int 0, .ref 24]) (n := 2) (m := 2) (by with_unfolding_all rfl) rfl (by decide) (by with_unfolding_all rfl) (by decide) (by with_unfolding_all rfl) ⟨fun z => absurd z (by decide), fun z => by simp at z⟩
-- b_131i37_11: copy
theorem k_24_169 {d nS : Nat} {M : am_M} {Q : Option Value → am_H → Prop} : am_Wp (d + 1) 131 0 [.ref 24, .ref 169] [] (hp nS M) Q = Q none (hp nS (am_row M 169 (va_cpy (M 24) (M 169) 0 0 8))) := by
  rw [b_131i37_0, c_296, am_ans_some, show (if (8 : Int32) < 8 then (8 : Int32) else 8) = 8 from rfl]
  refine (eq_copy2 (e := (.invokestatic 362, 3, 6, 0, 66)) (na := 8) (nb := 8) (by with_unfolding_all rfl) rfl rfl (by with_unfolding_all rfl) (by with_unfolding_all rfl) (by decide) (by decide) (by decide) ⟨by decide, by decide, by decide⟩).trans ?_
  exact eq_retV2 (e := (.return_, 1, 0, 0, 0)) (by with_unfolding_all rfl) rfl (by with_unfolding_all rfl)
set_option maxRecDepth 20000 in
theorem b_131i38_0 {d nS : Nat} {M : am_M} {Q : Option Value → am_H → Prop} : am_Wp (d + 1) 131 0 [.ref 25, .ref 170] [] (hp nS M) Q = am_Wp d 296 0 [.int 8, .int 8] [] (hp nS M) (fun v h1 => am_Wp (d + 1) 131 11 [.ref 25, .ref 170] (am_ans v [.int 0, .ref 170, .int 0, .ref 25]) h1 Q) := by
  refine (eq_run 8 (q := (8, [.ref 25, .ref 170], [.int 8, .int 8, .int 0, .ref 170, .int 0, .ref 25], hp nS M)) (by with_unfolding_all rfl)).trans ?_
  exact eq_call2 (e := (.invokestatic 359, 3, 1, 296, 65)) (as := [.int 8, .int 8]) (r := [.int 0, .ref 170, .int 0, .ref 25]) (n := 2) (m := 2) (by with_unfolding_all rfl) rfl (by decide) (by with_unfolding_all rfl) (by decide) (by with_unfolding_all rfl) ⟨fun z => absurd z (by decide), fun z => by simp at z⟩
-- b_131i38_11: copy
theorem k_25_170 {d nS : Nat} {M : am_M} {Q : Option Value → am_H → Prop} : am_Wp (d + 1) 131 0 [.ref 25, .ref 170] [] (hp nS M) Q = Q none (hp nS (am_row M 170 (va_cpy (M 25) (M 170) 0 0 8))) := by
  rw [b_131i38_0, c_296, am_ans_some, show (if (8 : Int32) < 8 then (8 : Int32) else 8) = 8 from rfl]
  refine (eq_copy2 (e := (.invokestatic 362, 3, 6, 0, 66)) (na := 8) (nb := 8) (by with_unfolding_all rfl) rfl rfl (by with_unfolding_all rfl) (by with_unfolding_all rfl) (by decide) (by decide) (by decide) ⟨by decide, by decide, by decide⟩).trans ?_
  exact eq_retV2 (e := (.return_, 1, 0, 0, 0)) (by with_unfolding_all rfl) rfl (by with_unfolding_all rfl)
set_option maxRecDepth 20000 in
theorem b_131i39_0 {d nS : Nat} {M : am_M} {Q : Option Value → am_H → Prop} : am_Wp (d + 1) 131 0 [.ref 26, .ref 171] [] (hp nS M) Q = am_Wp d 296 0 [.int 8, .int 8] [] (hp nS M) (fun v h1 => am_Wp (d + 1) 131 11 [.ref 26, .ref 171] (am_ans v [.int 0, .ref 171, .int 0, .ref 26]) h1 Q) := by
  refine (eq_run 8 (q := (8, [.ref 26, .ref 171], [.int 8, .int 8, .int 0, .ref 171, .int 0, .ref 26], hp nS M)) (by with_unfolding_all rfl)).trans ?_
  exact eq_call2 (e := (.invokestatic 359, 3, 1, 296, 65)) (as := [.int 8, .int 8]) (r := [.int 0, .ref 171, .int 0, .ref 26]) (n := 2) (m := 2) (by with_unfolding_all rfl) rfl (by decide) (by with_unfolding_all rfl) (by decide) (by with_unfolding_all rfl) ⟨fun z => absurd z (by decide), fun z => by simp at z⟩
-- b_131i39_11: copy
theorem k_26_171 {d nS : Nat} {M : am_M} {Q : Option Value → am_H → Prop} : am_Wp (d + 1) 131 0 [.ref 26, .ref 171] [] (hp nS M) Q = Q none (hp nS (am_row M 171 (va_cpy (M 26) (M 171) 0 0 8))) := by
  rw [b_131i39_0, c_296, am_ans_some, show (if (8 : Int32) < 8 then (8 : Int32) else 8) = 8 from rfl]
  refine (eq_copy2 (e := (.invokestatic 362, 3, 6, 0, 66)) (na := 8) (nb := 8) (by with_unfolding_all rfl) rfl rfl (by with_unfolding_all rfl) (by with_unfolding_all rfl) (by decide) (by decide) (by decide) ⟨by decide, by decide, by decide⟩).trans ?_
  exact eq_retV2 (e := (.return_, 1, 0, 0, 0)) (by with_unfolding_all rfl) rfl (by with_unfolding_all rfl)
set_option maxRecDepth 20000 in
theorem b_131i40_0 {d nS : Nat} {M : am_M} {Q : Option Value → am_H → Prop} : am_Wp (d + 1) 131 0 [.ref 27, .ref 172] [] (hp nS M) Q = am_Wp d 296 0 [.int 10, .int 10] [] (hp nS M) (fun v h1 => am_Wp (d + 1) 131 11 [.ref 27, .ref 172] (am_ans v [.int 0, .ref 172, .int 0, .ref 27]) h1 Q) := by
  refine (eq_run 8 (q := (8, [.ref 27, .ref 172], [.int 10, .int 10, .int 0, .ref 172, .int 0, .ref 27], hp nS M)) (by with_unfolding_all rfl)).trans ?_
  exact eq_call2 (e := (.invokestatic 359, 3, 1, 296, 65)) (as := [.int 10, .int 10]) (r := [.int 0, .ref 172, .int 0, .ref 27]) (n := 2) (m := 2) (by with_unfolding_all rfl) rfl (by decide) (by with_unfolding_all rfl) (by decide) (by with_unfolding_all rfl) ⟨fun z => absurd z (by decide), fun z => by simp at z⟩
-- b_131i40_11: copy
theorem k_27_172 {d nS : Nat} {M : am_M} {Q : Option Value → am_H → Prop} : am_Wp (d + 1) 131 0 [.ref 27, .ref 172] [] (hp nS M) Q = Q none (hp nS (am_row M 172 (va_cpy (M 27) (M 172) 0 0 10))) := by
  rw [b_131i40_0, c_296, am_ans_some, show (if (10 : Int32) < 10 then (10 : Int32) else 10) = 10 from rfl]
  refine (eq_copy2 (e := (.invokestatic 362, 3, 6, 0, 66)) (na := 10) (nb := 10) (by with_unfolding_all rfl) rfl rfl (by with_unfolding_all rfl) (by with_unfolding_all rfl) (by decide) (by decide) (by decide) ⟨by decide, by decide, by decide⟩).trans ?_
  exact eq_retV2 (e := (.return_, 1, 0, 0, 0)) (by with_unfolding_all rfl) rfl (by with_unfolding_all rfl)
set_option maxRecDepth 20000 in
theorem b_131i41_0 {d nS : Nat} {M : am_M} {Q : Option Value → am_H → Prop} : am_Wp (d + 1) 131 0 [.ref 28, .ref 173] [] (hp nS M) Q = am_Wp d 296 0 [.int 10, .int 10] [] (hp nS M) (fun v h1 => am_Wp (d + 1) 131 11 [.ref 28, .ref 173] (am_ans v [.int 0, .ref 173, .int 0, .ref 28]) h1 Q) := by
  refine (eq_run 8 (q := (8, [.ref 28, .ref 173], [.int 10, .int 10, .int 0, .ref 173, .int 0, .ref 28], hp nS M)) (by with_unfolding_all rfl)).trans ?_
  exact eq_call2 (e := (.invokestatic 359, 3, 1, 296, 65)) (as := [.int 10, .int 10]) (r := [.int 0, .ref 173, .int 0, .ref 28]) (n := 2) (m := 2) (by with_unfolding_all rfl) rfl (by decide) (by with_unfolding_all rfl) (by decide) (by with_unfolding_all rfl) ⟨fun z => absurd z (by decide), fun z => by simp at z⟩
-- b_131i41_11: copy
theorem k_28_173 {d nS : Nat} {M : am_M} {Q : Option Value → am_H → Prop} : am_Wp (d + 1) 131 0 [.ref 28, .ref 173] [] (hp nS M) Q = Q none (hp nS (am_row M 173 (va_cpy (M 28) (M 173) 0 0 10))) := by
  rw [b_131i41_0, c_296, am_ans_some, show (if (10 : Int32) < 10 then (10 : Int32) else 10) = 10 from rfl]
  refine (eq_copy2 (e := (.invokestatic 362, 3, 6, 0, 66)) (na := 10) (nb := 10) (by with_unfolding_all rfl) rfl rfl (by with_unfolding_all rfl) (by with_unfolding_all rfl) (by decide) (by decide) (by decide) ⟨by decide, by decide, by decide⟩).trans ?_
  exact eq_retV2 (e := (.return_, 1, 0, 0, 0)) (by with_unfolding_all rfl) rfl (by with_unfolding_all rfl)
set_option maxRecDepth 20000 in
theorem b_131i42_0 {d nS : Nat} {M : am_M} {Q : Option Value → am_H → Prop} : am_Wp (d + 1) 131 0 [.ref 29, .ref 174] [] (hp nS M) Q = am_Wp d 296 0 [.int 80, .int 80] [] (hp nS M) (fun v h1 => am_Wp (d + 1) 131 11 [.ref 29, .ref 174] (am_ans v [.int 0, .ref 174, .int 0, .ref 29]) h1 Q) := by
  refine (eq_run 8 (q := (8, [.ref 29, .ref 174], [.int 80, .int 80, .int 0, .ref 174, .int 0, .ref 29], hp nS M)) (by with_unfolding_all rfl)).trans ?_
  exact eq_call2 (e := (.invokestatic 359, 3, 1, 296, 65)) (as := [.int 80, .int 80]) (r := [.int 0, .ref 174, .int 0, .ref 29]) (n := 2) (m := 2) (by with_unfolding_all rfl) rfl (by decide) (by with_unfolding_all rfl) (by decide) (by with_unfolding_all rfl) ⟨fun z => absurd z (by decide), fun z => by simp at z⟩
-- b_131i42_11: copy
theorem k_29_174 {d nS : Nat} {M : am_M} {Q : Option Value → am_H → Prop} : am_Wp (d + 1) 131 0 [.ref 29, .ref 174] [] (hp nS M) Q = Q none (hp nS (am_row M 174 (va_cpy (M 29) (M 174) 0 0 80))) := by
  rw [b_131i42_0, c_296, am_ans_some, show (if (80 : Int32) < 80 then (80 : Int32) else 80) = 80 from rfl]
  refine (eq_copy2 (e := (.invokestatic 362, 3, 6, 0, 66)) (na := 80) (nb := 80) (by with_unfolding_all rfl) rfl rfl (by with_unfolding_all rfl) (by with_unfolding_all rfl) (by decide) (by decide) (by decide) ⟨by decide, by decide, by decide⟩).trans ?_
  exact eq_retV2 (e := (.return_, 1, 0, 0, 0)) (by with_unfolding_all rfl) rfl (by with_unfolding_all rfl)
set_option maxRecDepth 20000 in
theorem b_131i43_0 {d nS : Nat} {M : am_M} {Q : Option Value → am_H → Prop} : am_Wp (d + 1) 131 0 [.ref 19, .ref 152] [] (hp nS M) Q = am_Wp d 296 0 [.int 6, .int 6] [] (hp nS M) (fun v h1 => am_Wp (d + 1) 131 11 [.ref 19, .ref 152] (am_ans v [.int 0, .ref 152, .int 0, .ref 19]) h1 Q) := by
  refine (eq_run 8 (q := (8, [.ref 19, .ref 152], [.int 6, .int 6, .int 0, .ref 152, .int 0, .ref 19], hp nS M)) (by with_unfolding_all rfl)).trans ?_
  exact eq_call2 (e := (.invokestatic 359, 3, 1, 296, 65)) (as := [.int 6, .int 6]) (r := [.int 0, .ref 152, .int 0, .ref 19]) (n := 2) (m := 2) (by with_unfolding_all rfl) rfl (by decide) (by with_unfolding_all rfl) (by decide) (by with_unfolding_all rfl) ⟨fun z => absurd z (by decide), fun z => by simp at z⟩
-- b_131i43_11: copy
theorem k_19_152 {d nS : Nat} {M : am_M} {Q : Option Value → am_H → Prop} : am_Wp (d + 1) 131 0 [.ref 19, .ref 152] [] (hp nS M) Q = Q none (hp nS (am_row M 152 (va_cpy (M 19) (M 152) 0 0 6))) := by
  rw [b_131i43_0, c_296, am_ans_some, show (if (6 : Int32) < 6 then (6 : Int32) else 6) = 6 from rfl]
  refine (eq_copy2 (e := (.invokestatic 362, 3, 6, 0, 66)) (na := 6) (nb := 6) (by with_unfolding_all rfl) rfl rfl (by with_unfolding_all rfl) (by with_unfolding_all rfl) (by decide) (by decide) (by decide) ⟨by decide, by decide, by decide⟩).trans ?_
  exact eq_retV2 (e := (.return_, 1, 0, 0, 0)) (by with_unfolding_all rfl) rfl (by with_unfolding_all rfl)
set_option maxRecDepth 20000 in
theorem b_131i44_0 {d nS : Nat} {M : am_M} {Q : Option Value → am_H → Prop} : am_Wp (d + 1) 131 0 [.ref 20, .ref 153] [] (hp nS M) Q = am_Wp d 296 0 [.int 6, .int 6] [] (hp nS M) (fun v h1 => am_Wp (d + 1) 131 11 [.ref 20, .ref 153] (am_ans v [.int 0, .ref 153, .int 0, .ref 20]) h1 Q) := by
  refine (eq_run 8 (q := (8, [.ref 20, .ref 153], [.int 6, .int 6, .int 0, .ref 153, .int 0, .ref 20], hp nS M)) (by with_unfolding_all rfl)).trans ?_
  exact eq_call2 (e := (.invokestatic 359, 3, 1, 296, 65)) (as := [.int 6, .int 6]) (r := [.int 0, .ref 153, .int 0, .ref 20]) (n := 2) (m := 2) (by with_unfolding_all rfl) rfl (by decide) (by with_unfolding_all rfl) (by decide) (by with_unfolding_all rfl) ⟨fun z => absurd z (by decide), fun z => by simp at z⟩
-- b_131i44_11: copy
theorem k_20_153 {d nS : Nat} {M : am_M} {Q : Option Value → am_H → Prop} : am_Wp (d + 1) 131 0 [.ref 20, .ref 153] [] (hp nS M) Q = Q none (hp nS (am_row M 153 (va_cpy (M 20) (M 153) 0 0 6))) := by
  rw [b_131i44_0, c_296, am_ans_some, show (if (6 : Int32) < 6 then (6 : Int32) else 6) = 6 from rfl]
  refine (eq_copy2 (e := (.invokestatic 362, 3, 6, 0, 66)) (na := 6) (nb := 6) (by with_unfolding_all rfl) rfl rfl (by with_unfolding_all rfl) (by with_unfolding_all rfl) (by decide) (by decide) (by decide) ⟨by decide, by decide, by decide⟩).trans ?_
  exact eq_retV2 (e := (.return_, 1, 0, 0, 0)) (by with_unfolding_all rfl) rfl (by with_unfolding_all rfl)
set_option maxRecDepth 20000 in
theorem b_131i45_0 {d nS : Nat} {M : am_M} {Q : Option Value → am_H → Prop} : am_Wp (d + 1) 131 0 [.ref 21, .ref 154] [] (hp nS M) Q = am_Wp d 296 0 [.int 6, .int 6] [] (hp nS M) (fun v h1 => am_Wp (d + 1) 131 11 [.ref 21, .ref 154] (am_ans v [.int 0, .ref 154, .int 0, .ref 21]) h1 Q) := by
  refine (eq_run 8 (q := (8, [.ref 21, .ref 154], [.int 6, .int 6, .int 0, .ref 154, .int 0, .ref 21], hp nS M)) (by with_unfolding_all rfl)).trans ?_
  exact eq_call2 (e := (.invokestatic 359, 3, 1, 296, 65)) (as := [.int 6, .int 6]) (r := [.int 0, .ref 154, .int 0, .ref 21]) (n := 2) (m := 2) (by with_unfolding_all rfl) rfl (by decide) (by with_unfolding_all rfl) (by decide) (by with_unfolding_all rfl) ⟨fun z => absurd z (by decide), fun z => by simp at z⟩
-- b_131i45_11: copy
theorem k_21_154 {d nS : Nat} {M : am_M} {Q : Option Value → am_H → Prop} : am_Wp (d + 1) 131 0 [.ref 21, .ref 154] [] (hp nS M) Q = Q none (hp nS (am_row M 154 (va_cpy (M 21) (M 154) 0 0 6))) := by
  rw [b_131i45_0, c_296, am_ans_some, show (if (6 : Int32) < 6 then (6 : Int32) else 6) = 6 from rfl]
  refine (eq_copy2 (e := (.invokestatic 362, 3, 6, 0, 66)) (na := 6) (nb := 6) (by with_unfolding_all rfl) rfl rfl (by with_unfolding_all rfl) (by with_unfolding_all rfl) (by decide) (by decide) (by decide) ⟨by decide, by decide, by decide⟩).trans ?_
  exact eq_retV2 (e := (.return_, 1, 0, 0, 0)) (by with_unfolding_all rfl) rfl (by with_unfolding_all rfl)
set_option maxRecDepth 20000 in
theorem b_131i46_0 {d nS : Nat} {M : am_M} {Q : Option Value → am_H → Prop} : am_Wp (d + 1) 131 0 [.ref 22, .ref 155] [] (hp nS M) Q = am_Wp d 296 0 [.int 6, .int 6] [] (hp nS M) (fun v h1 => am_Wp (d + 1) 131 11 [.ref 22, .ref 155] (am_ans v [.int 0, .ref 155, .int 0, .ref 22]) h1 Q) := by
  refine (eq_run 8 (q := (8, [.ref 22, .ref 155], [.int 6, .int 6, .int 0, .ref 155, .int 0, .ref 22], hp nS M)) (by with_unfolding_all rfl)).trans ?_
  exact eq_call2 (e := (.invokestatic 359, 3, 1, 296, 65)) (as := [.int 6, .int 6]) (r := [.int 0, .ref 155, .int 0, .ref 22]) (n := 2) (m := 2) (by with_unfolding_all rfl) rfl (by decide) (by with_unfolding_all rfl) (by decide) (by with_unfolding_all rfl) ⟨fun z => absurd z (by decide), fun z => by simp at z⟩
-- b_131i46_11: copy
theorem k_22_155 {d nS : Nat} {M : am_M} {Q : Option Value → am_H → Prop} : am_Wp (d + 1) 131 0 [.ref 22, .ref 155] [] (hp nS M) Q = Q none (hp nS (am_row M 155 (va_cpy (M 22) (M 155) 0 0 6))) := by
  rw [b_131i46_0, c_296, am_ans_some, show (if (6 : Int32) < 6 then (6 : Int32) else 6) = 6 from rfl]
  refine (eq_copy2 (e := (.invokestatic 362, 3, 6, 0, 66)) (na := 6) (nb := 6) (by with_unfolding_all rfl) rfl rfl (by with_unfolding_all rfl) (by with_unfolding_all rfl) (by decide) (by decide) (by decide) ⟨by decide, by decide, by decide⟩).trans ?_
  exact eq_retV2 (e := (.return_, 1, 0, 0, 0)) (by with_unfolding_all rfl) rfl (by with_unfolding_all rfl)
set_option maxRecDepth 20000 in
theorem b_131i47_0 {d nS : Nat} {M : am_M} {Q : Option Value → am_H → Prop} : am_Wp (d + 1) 131 0 [.ref 23, .ref 156] [] (hp nS M) Q = am_Wp d 296 0 [.int 6, .int 6] [] (hp nS M) (fun v h1 => am_Wp (d + 1) 131 11 [.ref 23, .ref 156] (am_ans v [.int 0, .ref 156, .int 0, .ref 23]) h1 Q) := by
  refine (eq_run 8 (q := (8, [.ref 23, .ref 156], [.int 6, .int 6, .int 0, .ref 156, .int 0, .ref 23], hp nS M)) (by with_unfolding_all rfl)).trans ?_
  exact eq_call2 (e := (.invokestatic 359, 3, 1, 296, 65)) (as := [.int 6, .int 6]) (r := [.int 0, .ref 156, .int 0, .ref 23]) (n := 2) (m := 2) (by with_unfolding_all rfl) rfl (by decide) (by with_unfolding_all rfl) (by decide) (by with_unfolding_all rfl) ⟨fun z => absurd z (by decide), fun z => by simp at z⟩
-- b_131i47_11: copy
theorem k_23_156 {d nS : Nat} {M : am_M} {Q : Option Value → am_H → Prop} : am_Wp (d + 1) 131 0 [.ref 23, .ref 156] [] (hp nS M) Q = Q none (hp nS (am_row M 156 (va_cpy (M 23) (M 156) 0 0 6))) := by
  rw [b_131i47_0, c_296, am_ans_some, show (if (6 : Int32) < 6 then (6 : Int32) else 6) = 6 from rfl]
  refine (eq_copy2 (e := (.invokestatic 362, 3, 6, 0, 66)) (na := 6) (nb := 6) (by with_unfolding_all rfl) rfl rfl (by with_unfolding_all rfl) (by with_unfolding_all rfl) (by decide) (by decide) (by decide) ⟨by decide, by decide, by decide⟩).trans ?_
  exact eq_retV2 (e := (.return_, 1, 0, 0, 0)) (by with_unfolding_all rfl) rfl (by with_unfolding_all rfl)
set_option maxRecDepth 20000 in
theorem b_131i48_0 {d nS : Nat} {M : am_M} {Q : Option Value → am_H → Prop} : am_Wp (d + 1) 131 0 [.ref 24, .ref 157] [] (hp nS M) Q = am_Wp d 296 0 [.int 8, .int 8] [] (hp nS M) (fun v h1 => am_Wp (d + 1) 131 11 [.ref 24, .ref 157] (am_ans v [.int 0, .ref 157, .int 0, .ref 24]) h1 Q) := by
  refine (eq_run 8 (q := (8, [.ref 24, .ref 157], [.int 8, .int 8, .int 0, .ref 157, .int 0, .ref 24], hp nS M)) (by with_unfolding_all rfl)).trans ?_
  exact eq_call2 (e := (.invokestatic 359, 3, 1, 296, 65)) (as := [.int 8, .int 8]) (r := [.int 0, .ref 157, .int 0, .ref 24]) (n := 2) (m := 2) (by with_unfolding_all rfl) rfl (by decide) (by with_unfolding_all rfl) (by decide) (by with_unfolding_all rfl) ⟨fun z => absurd z (by decide), fun z => by simp at z⟩
-- b_131i48_11: copy
theorem k_24_157 {d nS : Nat} {M : am_M} {Q : Option Value → am_H → Prop} : am_Wp (d + 1) 131 0 [.ref 24, .ref 157] [] (hp nS M) Q = Q none (hp nS (am_row M 157 (va_cpy (M 24) (M 157) 0 0 8))) := by
  rw [b_131i48_0, c_296, am_ans_some, show (if (8 : Int32) < 8 then (8 : Int32) else 8) = 8 from rfl]
  refine (eq_copy2 (e := (.invokestatic 362, 3, 6, 0, 66)) (na := 8) (nb := 8) (by with_unfolding_all rfl) rfl rfl (by with_unfolding_all rfl) (by with_unfolding_all rfl) (by decide) (by decide) (by decide) ⟨by decide, by decide, by decide⟩).trans ?_
  exact eq_retV2 (e := (.return_, 1, 0, 0, 0)) (by with_unfolding_all rfl) rfl (by with_unfolding_all rfl)
set_option maxRecDepth 20000 in
theorem b_131i49_0 {d nS : Nat} {M : am_M} {Q : Option Value → am_H → Prop} : am_Wp (d + 1) 131 0 [.ref 25, .ref 158] [] (hp nS M) Q = am_Wp d 296 0 [.int 8, .int 8] [] (hp nS M) (fun v h1 => am_Wp (d + 1) 131 11 [.ref 25, .ref 158] (am_ans v [.int 0, .ref 158, .int 0, .ref 25]) h1 Q) := by
  refine (eq_run 8 (q := (8, [.ref 25, .ref 158], [.int 8, .int 8, .int 0, .ref 158, .int 0, .ref 25], hp nS M)) (by with_unfolding_all rfl)).trans ?_
  exact eq_call2 (e := (.invokestatic 359, 3, 1, 296, 65)) (as := [.int 8, .int 8]) (r := [.int 0, .ref 158, .int 0, .ref 25]) (n := 2) (m := 2) (by with_unfolding_all rfl) rfl (by decide) (by with_unfolding_all rfl) (by decide) (by with_unfolding_all rfl) ⟨fun z => absurd z (by decide), fun z => by simp at z⟩
-- b_131i49_11: copy
theorem k_25_158 {d nS : Nat} {M : am_M} {Q : Option Value → am_H → Prop} : am_Wp (d + 1) 131 0 [.ref 25, .ref 158] [] (hp nS M) Q = Q none (hp nS (am_row M 158 (va_cpy (M 25) (M 158) 0 0 8))) := by
  rw [b_131i49_0, c_296, am_ans_some, show (if (8 : Int32) < 8 then (8 : Int32) else 8) = 8 from rfl]
  refine (eq_copy2 (e := (.invokestatic 362, 3, 6, 0, 66)) (na := 8) (nb := 8) (by with_unfolding_all rfl) rfl rfl (by with_unfolding_all rfl) (by with_unfolding_all rfl) (by decide) (by decide) (by decide) ⟨by decide, by decide, by decide⟩).trans ?_
  exact eq_retV2 (e := (.return_, 1, 0, 0, 0)) (by with_unfolding_all rfl) rfl (by with_unfolding_all rfl)
set_option maxRecDepth 20000 in
theorem b_131i50_0 {d nS : Nat} {M : am_M} {Q : Option Value → am_H → Prop} : am_Wp (d + 1) 131 0 [.ref 26, .ref 159] [] (hp nS M) Q = am_Wp d 296 0 [.int 8, .int 8] [] (hp nS M) (fun v h1 => am_Wp (d + 1) 131 11 [.ref 26, .ref 159] (am_ans v [.int 0, .ref 159, .int 0, .ref 26]) h1 Q) := by
  refine (eq_run 8 (q := (8, [.ref 26, .ref 159], [.int 8, .int 8, .int 0, .ref 159, .int 0, .ref 26], hp nS M)) (by with_unfolding_all rfl)).trans ?_
  exact eq_call2 (e := (.invokestatic 359, 3, 1, 296, 65)) (as := [.int 8, .int 8]) (r := [.int 0, .ref 159, .int 0, .ref 26]) (n := 2) (m := 2) (by with_unfolding_all rfl) rfl (by decide) (by with_unfolding_all rfl) (by decide) (by with_unfolding_all rfl) ⟨fun z => absurd z (by decide), fun z => by simp at z⟩
-- b_131i50_11: copy
theorem k_26_159 {d nS : Nat} {M : am_M} {Q : Option Value → am_H → Prop} : am_Wp (d + 1) 131 0 [.ref 26, .ref 159] [] (hp nS M) Q = Q none (hp nS (am_row M 159 (va_cpy (M 26) (M 159) 0 0 8))) := by
  rw [b_131i50_0, c_296, am_ans_some, show (if (8 : Int32) < 8 then (8 : Int32) else 8) = 8 from rfl]
  refine (eq_copy2 (e := (.invokestatic 362, 3, 6, 0, 66)) (na := 8) (nb := 8) (by with_unfolding_all rfl) rfl rfl (by with_unfolding_all rfl) (by with_unfolding_all rfl) (by decide) (by decide) (by decide) ⟨by decide, by decide, by decide⟩).trans ?_
  exact eq_retV2 (e := (.return_, 1, 0, 0, 0)) (by with_unfolding_all rfl) rfl (by with_unfolding_all rfl)
set_option maxRecDepth 20000 in
theorem b_131i51_0 {d nS : Nat} {M : am_M} {Q : Option Value → am_H → Prop} : am_Wp (d + 1) 131 0 [.ref 27, .ref 160] [] (hp nS M) Q = am_Wp d 296 0 [.int 10, .int 10] [] (hp nS M) (fun v h1 => am_Wp (d + 1) 131 11 [.ref 27, .ref 160] (am_ans v [.int 0, .ref 160, .int 0, .ref 27]) h1 Q) := by
  refine (eq_run 8 (q := (8, [.ref 27, .ref 160], [.int 10, .int 10, .int 0, .ref 160, .int 0, .ref 27], hp nS M)) (by with_unfolding_all rfl)).trans ?_
  exact eq_call2 (e := (.invokestatic 359, 3, 1, 296, 65)) (as := [.int 10, .int 10]) (r := [.int 0, .ref 160, .int 0, .ref 27]) (n := 2) (m := 2) (by with_unfolding_all rfl) rfl (by decide) (by with_unfolding_all rfl) (by decide) (by with_unfolding_all rfl) ⟨fun z => absurd z (by decide), fun z => by simp at z⟩
-- b_131i51_11: copy
theorem k_27_160 {d nS : Nat} {M : am_M} {Q : Option Value → am_H → Prop} : am_Wp (d + 1) 131 0 [.ref 27, .ref 160] [] (hp nS M) Q = Q none (hp nS (am_row M 160 (va_cpy (M 27) (M 160) 0 0 10))) := by
  rw [b_131i51_0, c_296, am_ans_some, show (if (10 : Int32) < 10 then (10 : Int32) else 10) = 10 from rfl]
  refine (eq_copy2 (e := (.invokestatic 362, 3, 6, 0, 66)) (na := 10) (nb := 10) (by with_unfolding_all rfl) rfl rfl (by with_unfolding_all rfl) (by with_unfolding_all rfl) (by decide) (by decide) (by decide) ⟨by decide, by decide, by decide⟩).trans ?_
  exact eq_retV2 (e := (.return_, 1, 0, 0, 0)) (by with_unfolding_all rfl) rfl (by with_unfolding_all rfl)
set_option maxRecDepth 20000 in
theorem b_131i52_0 {d nS : Nat} {M : am_M} {Q : Option Value → am_H → Prop} : am_Wp (d + 1) 131 0 [.ref 28, .ref 161] [] (hp nS M) Q = am_Wp d 296 0 [.int 10, .int 10] [] (hp nS M) (fun v h1 => am_Wp (d + 1) 131 11 [.ref 28, .ref 161] (am_ans v [.int 0, .ref 161, .int 0, .ref 28]) h1 Q) := by
  refine (eq_run 8 (q := (8, [.ref 28, .ref 161], [.int 10, .int 10, .int 0, .ref 161, .int 0, .ref 28], hp nS M)) (by with_unfolding_all rfl)).trans ?_
  exact eq_call2 (e := (.invokestatic 359, 3, 1, 296, 65)) (as := [.int 10, .int 10]) (r := [.int 0, .ref 161, .int 0, .ref 28]) (n := 2) (m := 2) (by with_unfolding_all rfl) rfl (by decide) (by with_unfolding_all rfl) (by decide) (by with_unfolding_all rfl) ⟨fun z => absurd z (by decide), fun z => by simp at z⟩
-- b_131i52_11: copy
theorem k_28_161 {d nS : Nat} {M : am_M} {Q : Option Value → am_H → Prop} : am_Wp (d + 1) 131 0 [.ref 28, .ref 161] [] (hp nS M) Q = Q none (hp nS (am_row M 161 (va_cpy (M 28) (M 161) 0 0 10))) := by
  rw [b_131i52_0, c_296, am_ans_some, show (if (10 : Int32) < 10 then (10 : Int32) else 10) = 10 from rfl]
  refine (eq_copy2 (e := (.invokestatic 362, 3, 6, 0, 66)) (na := 10) (nb := 10) (by with_unfolding_all rfl) rfl rfl (by with_unfolding_all rfl) (by with_unfolding_all rfl) (by decide) (by decide) (by decide) ⟨by decide, by decide, by decide⟩).trans ?_
  exact eq_retV2 (e := (.return_, 1, 0, 0, 0)) (by with_unfolding_all rfl) rfl (by with_unfolding_all rfl)
set_option maxRecDepth 20000 in
theorem b_131i53_0 {d nS : Nat} {M : am_M} {Q : Option Value → am_H → Prop} : am_Wp (d + 1) 131 0 [.ref 29, .ref 162] [] (hp nS M) Q = am_Wp d 296 0 [.int 80, .int 80] [] (hp nS M) (fun v h1 => am_Wp (d + 1) 131 11 [.ref 29, .ref 162] (am_ans v [.int 0, .ref 162, .int 0, .ref 29]) h1 Q) := by
  refine (eq_run 8 (q := (8, [.ref 29, .ref 162], [.int 80, .int 80, .int 0, .ref 162, .int 0, .ref 29], hp nS M)) (by with_unfolding_all rfl)).trans ?_
  exact eq_call2 (e := (.invokestatic 359, 3, 1, 296, 65)) (as := [.int 80, .int 80]) (r := [.int 0, .ref 162, .int 0, .ref 29]) (n := 2) (m := 2) (by with_unfolding_all rfl) rfl (by decide) (by with_unfolding_all rfl) (by decide) (by with_unfolding_all rfl) ⟨fun z => absurd z (by decide), fun z => by simp at z⟩
-- b_131i53_11: copy
theorem k_29_162 {d nS : Nat} {M : am_M} {Q : Option Value → am_H → Prop} : am_Wp (d + 1) 131 0 [.ref 29, .ref 162] [] (hp nS M) Q = Q none (hp nS (am_row M 162 (va_cpy (M 29) (M 162) 0 0 80))) := by
  rw [b_131i53_0, c_296, am_ans_some, show (if (80 : Int32) < 80 then (80 : Int32) else 80) = 80 from rfl]
  refine (eq_copy2 (e := (.invokestatic 362, 3, 6, 0, 66)) (na := 80) (nb := 80) (by with_unfolding_all rfl) rfl rfl (by with_unfolding_all rfl) (by with_unfolding_all rfl) (by decide) (by decide) (by decide) ⟨by decide, by decide, by decide⟩).trans ?_
  exact eq_retV2 (e := (.return_, 1, 0, 0, 0)) (by with_unfolding_all rfl) rfl (by with_unfolding_all rfl)
set_option maxRecDepth 20000 in
theorem b_131i54_0 {d nS : Nat} {M : am_M} {Q : Option Value → am_H → Prop} : am_Wp (d + 1) 131 0 [.ref 19, .ref 140] [] (hp nS M) Q = am_Wp d 296 0 [.int 6, .int 6] [] (hp nS M) (fun v h1 => am_Wp (d + 1) 131 11 [.ref 19, .ref 140] (am_ans v [.int 0, .ref 140, .int 0, .ref 19]) h1 Q) := by
  refine (eq_run 8 (q := (8, [.ref 19, .ref 140], [.int 6, .int 6, .int 0, .ref 140, .int 0, .ref 19], hp nS M)) (by with_unfolding_all rfl)).trans ?_
  exact eq_call2 (e := (.invokestatic 359, 3, 1, 296, 65)) (as := [.int 6, .int 6]) (r := [.int 0, .ref 140, .int 0, .ref 19]) (n := 2) (m := 2) (by with_unfolding_all rfl) rfl (by decide) (by with_unfolding_all rfl) (by decide) (by with_unfolding_all rfl) ⟨fun z => absurd z (by decide), fun z => by simp at z⟩
-- b_131i54_11: copy
theorem k_19_140 {d nS : Nat} {M : am_M} {Q : Option Value → am_H → Prop} : am_Wp (d + 1) 131 0 [.ref 19, .ref 140] [] (hp nS M) Q = Q none (hp nS (am_row M 140 (va_cpy (M 19) (M 140) 0 0 6))) := by
  rw [b_131i54_0, c_296, am_ans_some, show (if (6 : Int32) < 6 then (6 : Int32) else 6) = 6 from rfl]
  refine (eq_copy2 (e := (.invokestatic 362, 3, 6, 0, 66)) (na := 6) (nb := 6) (by with_unfolding_all rfl) rfl rfl (by with_unfolding_all rfl) (by with_unfolding_all rfl) (by decide) (by decide) (by decide) ⟨by decide, by decide, by decide⟩).trans ?_
  exact eq_retV2 (e := (.return_, 1, 0, 0, 0)) (by with_unfolding_all rfl) rfl (by with_unfolding_all rfl)
set_option maxRecDepth 20000 in
theorem b_131i55_0 {d nS : Nat} {M : am_M} {Q : Option Value → am_H → Prop} : am_Wp (d + 1) 131 0 [.ref 20, .ref 141] [] (hp nS M) Q = am_Wp d 296 0 [.int 6, .int 6] [] (hp nS M) (fun v h1 => am_Wp (d + 1) 131 11 [.ref 20, .ref 141] (am_ans v [.int 0, .ref 141, .int 0, .ref 20]) h1 Q) := by
  refine (eq_run 8 (q := (8, [.ref 20, .ref 141], [.int 6, .int 6, .int 0, .ref 141, .int 0, .ref 20], hp nS M)) (by with_unfolding_all rfl)).trans ?_
  exact eq_call2 (e := (.invokestatic 359, 3, 1, 296, 65)) (as := [.int 6, .int 6]) (r := [.int 0, .ref 141, .int 0, .ref 20]) (n := 2) (m := 2) (by with_unfolding_all rfl) rfl (by decide) (by with_unfolding_all rfl) (by decide) (by with_unfolding_all rfl) ⟨fun z => absurd z (by decide), fun z => by simp at z⟩
-- b_131i55_11: copy
theorem k_20_141 {d nS : Nat} {M : am_M} {Q : Option Value → am_H → Prop} : am_Wp (d + 1) 131 0 [.ref 20, .ref 141] [] (hp nS M) Q = Q none (hp nS (am_row M 141 (va_cpy (M 20) (M 141) 0 0 6))) := by
  rw [b_131i55_0, c_296, am_ans_some, show (if (6 : Int32) < 6 then (6 : Int32) else 6) = 6 from rfl]
  refine (eq_copy2 (e := (.invokestatic 362, 3, 6, 0, 66)) (na := 6) (nb := 6) (by with_unfolding_all rfl) rfl rfl (by with_unfolding_all rfl) (by with_unfolding_all rfl) (by decide) (by decide) (by decide) ⟨by decide, by decide, by decide⟩).trans ?_
  exact eq_retV2 (e := (.return_, 1, 0, 0, 0)) (by with_unfolding_all rfl) rfl (by with_unfolding_all rfl)
set_option maxRecDepth 20000 in
theorem b_131i56_0 {d nS : Nat} {M : am_M} {Q : Option Value → am_H → Prop} : am_Wp (d + 1) 131 0 [.ref 21, .ref 142] [] (hp nS M) Q = am_Wp d 296 0 [.int 6, .int 6] [] (hp nS M) (fun v h1 => am_Wp (d + 1) 131 11 [.ref 21, .ref 142] (am_ans v [.int 0, .ref 142, .int 0, .ref 21]) h1 Q) := by
  refine (eq_run 8 (q := (8, [.ref 21, .ref 142], [.int 6, .int 6, .int 0, .ref 142, .int 0, .ref 21], hp nS M)) (by with_unfolding_all rfl)).trans ?_
  exact eq_call2 (e := (.invokestatic 359, 3, 1, 296, 65)) (as := [.int 6, .int 6]) (r := [.int 0, .ref 142, .int 0, .ref 21]) (n := 2) (m := 2) (by with_unfolding_all rfl) rfl (by decide) (by with_unfolding_all rfl) (by decide) (by with_unfolding_all rfl) ⟨fun z => absurd z (by decide), fun z => by simp at z⟩
-- b_131i56_11: copy
theorem k_21_142 {d nS : Nat} {M : am_M} {Q : Option Value → am_H → Prop} : am_Wp (d + 1) 131 0 [.ref 21, .ref 142] [] (hp nS M) Q = Q none (hp nS (am_row M 142 (va_cpy (M 21) (M 142) 0 0 6))) := by
  rw [b_131i56_0, c_296, am_ans_some, show (if (6 : Int32) < 6 then (6 : Int32) else 6) = 6 from rfl]
  refine (eq_copy2 (e := (.invokestatic 362, 3, 6, 0, 66)) (na := 6) (nb := 6) (by with_unfolding_all rfl) rfl rfl (by with_unfolding_all rfl) (by with_unfolding_all rfl) (by decide) (by decide) (by decide) ⟨by decide, by decide, by decide⟩).trans ?_
  exact eq_retV2 (e := (.return_, 1, 0, 0, 0)) (by with_unfolding_all rfl) rfl (by with_unfolding_all rfl)
set_option maxRecDepth 20000 in
theorem b_131i57_0 {d nS : Nat} {M : am_M} {Q : Option Value → am_H → Prop} : am_Wp (d + 1) 131 0 [.ref 22, .ref 143] [] (hp nS M) Q = am_Wp d 296 0 [.int 6, .int 6] [] (hp nS M) (fun v h1 => am_Wp (d + 1) 131 11 [.ref 22, .ref 143] (am_ans v [.int 0, .ref 143, .int 0, .ref 22]) h1 Q) := by
  refine (eq_run 8 (q := (8, [.ref 22, .ref 143], [.int 6, .int 6, .int 0, .ref 143, .int 0, .ref 22], hp nS M)) (by with_unfolding_all rfl)).trans ?_
  exact eq_call2 (e := (.invokestatic 359, 3, 1, 296, 65)) (as := [.int 6, .int 6]) (r := [.int 0, .ref 143, .int 0, .ref 22]) (n := 2) (m := 2) (by with_unfolding_all rfl) rfl (by decide) (by with_unfolding_all rfl) (by decide) (by with_unfolding_all rfl) ⟨fun z => absurd z (by decide), fun z => by simp at z⟩
-- b_131i57_11: copy
theorem k_22_143 {d nS : Nat} {M : am_M} {Q : Option Value → am_H → Prop} : am_Wp (d + 1) 131 0 [.ref 22, .ref 143] [] (hp nS M) Q = Q none (hp nS (am_row M 143 (va_cpy (M 22) (M 143) 0 0 6))) := by
  rw [b_131i57_0, c_296, am_ans_some, show (if (6 : Int32) < 6 then (6 : Int32) else 6) = 6 from rfl]
  refine (eq_copy2 (e := (.invokestatic 362, 3, 6, 0, 66)) (na := 6) (nb := 6) (by with_unfolding_all rfl) rfl rfl (by with_unfolding_all rfl) (by with_unfolding_all rfl) (by decide) (by decide) (by decide) ⟨by decide, by decide, by decide⟩).trans ?_
  exact eq_retV2 (e := (.return_, 1, 0, 0, 0)) (by with_unfolding_all rfl) rfl (by with_unfolding_all rfl)
set_option maxRecDepth 20000 in
theorem b_131i58_0 {d nS : Nat} {M : am_M} {Q : Option Value → am_H → Prop} : am_Wp (d + 1) 131 0 [.ref 23, .ref 144] [] (hp nS M) Q = am_Wp d 296 0 [.int 6, .int 6] [] (hp nS M) (fun v h1 => am_Wp (d + 1) 131 11 [.ref 23, .ref 144] (am_ans v [.int 0, .ref 144, .int 0, .ref 23]) h1 Q) := by
  refine (eq_run 8 (q := (8, [.ref 23, .ref 144], [.int 6, .int 6, .int 0, .ref 144, .int 0, .ref 23], hp nS M)) (by with_unfolding_all rfl)).trans ?_
  exact eq_call2 (e := (.invokestatic 359, 3, 1, 296, 65)) (as := [.int 6, .int 6]) (r := [.int 0, .ref 144, .int 0, .ref 23]) (n := 2) (m := 2) (by with_unfolding_all rfl) rfl (by decide) (by with_unfolding_all rfl) (by decide) (by with_unfolding_all rfl) ⟨fun z => absurd z (by decide), fun z => by simp at z⟩
-- b_131i58_11: copy
theorem k_23_144 {d nS : Nat} {M : am_M} {Q : Option Value → am_H → Prop} : am_Wp (d + 1) 131 0 [.ref 23, .ref 144] [] (hp nS M) Q = Q none (hp nS (am_row M 144 (va_cpy (M 23) (M 144) 0 0 6))) := by
  rw [b_131i58_0, c_296, am_ans_some, show (if (6 : Int32) < 6 then (6 : Int32) else 6) = 6 from rfl]
  refine (eq_copy2 (e := (.invokestatic 362, 3, 6, 0, 66)) (na := 6) (nb := 6) (by with_unfolding_all rfl) rfl rfl (by with_unfolding_all rfl) (by with_unfolding_all rfl) (by decide) (by decide) (by decide) ⟨by decide, by decide, by decide⟩).trans ?_
  exact eq_retV2 (e := (.return_, 1, 0, 0, 0)) (by with_unfolding_all rfl) rfl (by with_unfolding_all rfl)
set_option maxRecDepth 20000 in
theorem b_131i59_0 {d nS : Nat} {M : am_M} {Q : Option Value → am_H → Prop} : am_Wp (d + 1) 131 0 [.ref 24, .ref 145] [] (hp nS M) Q = am_Wp d 296 0 [.int 8, .int 8] [] (hp nS M) (fun v h1 => am_Wp (d + 1) 131 11 [.ref 24, .ref 145] (am_ans v [.int 0, .ref 145, .int 0, .ref 24]) h1 Q) := by
  refine (eq_run 8 (q := (8, [.ref 24, .ref 145], [.int 8, .int 8, .int 0, .ref 145, .int 0, .ref 24], hp nS M)) (by with_unfolding_all rfl)).trans ?_
  exact eq_call2 (e := (.invokestatic 359, 3, 1, 296, 65)) (as := [.int 8, .int 8]) (r := [.int 0, .ref 145, .int 0, .ref 24]) (n := 2) (m := 2) (by with_unfolding_all rfl) rfl (by decide) (by with_unfolding_all rfl) (by decide) (by with_unfolding_all rfl) ⟨fun z => absurd z (by decide), fun z => by simp at z⟩
-- b_131i59_11: copy
theorem k_24_145 {d nS : Nat} {M : am_M} {Q : Option Value → am_H → Prop} : am_Wp (d + 1) 131 0 [.ref 24, .ref 145] [] (hp nS M) Q = Q none (hp nS (am_row M 145 (va_cpy (M 24) (M 145) 0 0 8))) := by
  rw [b_131i59_0, c_296, am_ans_some, show (if (8 : Int32) < 8 then (8 : Int32) else 8) = 8 from rfl]
  refine (eq_copy2 (e := (.invokestatic 362, 3, 6, 0, 66)) (na := 8) (nb := 8) (by with_unfolding_all rfl) rfl rfl (by with_unfolding_all rfl) (by with_unfolding_all rfl) (by decide) (by decide) (by decide) ⟨by decide, by decide, by decide⟩).trans ?_
  exact eq_retV2 (e := (.return_, 1, 0, 0, 0)) (by with_unfolding_all rfl) rfl (by with_unfolding_all rfl)
set_option maxRecDepth 20000 in
theorem b_131i60_0 {d nS : Nat} {M : am_M} {Q : Option Value → am_H → Prop} : am_Wp (d + 1) 131 0 [.ref 25, .ref 146] [] (hp nS M) Q = am_Wp d 296 0 [.int 8, .int 8] [] (hp nS M) (fun v h1 => am_Wp (d + 1) 131 11 [.ref 25, .ref 146] (am_ans v [.int 0, .ref 146, .int 0, .ref 25]) h1 Q) := by
  refine (eq_run 8 (q := (8, [.ref 25, .ref 146], [.int 8, .int 8, .int 0, .ref 146, .int 0, .ref 25], hp nS M)) (by with_unfolding_all rfl)).trans ?_
  exact eq_call2 (e := (.invokestatic 359, 3, 1, 296, 65)) (as := [.int 8, .int 8]) (r := [.int 0, .ref 146, .int 0, .ref 25]) (n := 2) (m := 2) (by with_unfolding_all rfl) rfl (by decide) (by with_unfolding_all rfl) (by decide) (by with_unfolding_all rfl) ⟨fun z => absurd z (by decide), fun z => by simp at z⟩
-- b_131i60_11: copy
theorem k_25_146 {d nS : Nat} {M : am_M} {Q : Option Value → am_H → Prop} : am_Wp (d + 1) 131 0 [.ref 25, .ref 146] [] (hp nS M) Q = Q none (hp nS (am_row M 146 (va_cpy (M 25) (M 146) 0 0 8))) := by
  rw [b_131i60_0, c_296, am_ans_some, show (if (8 : Int32) < 8 then (8 : Int32) else 8) = 8 from rfl]
  refine (eq_copy2 (e := (.invokestatic 362, 3, 6, 0, 66)) (na := 8) (nb := 8) (by with_unfolding_all rfl) rfl rfl (by with_unfolding_all rfl) (by with_unfolding_all rfl) (by decide) (by decide) (by decide) ⟨by decide, by decide, by decide⟩).trans ?_
  exact eq_retV2 (e := (.return_, 1, 0, 0, 0)) (by with_unfolding_all rfl) rfl (by with_unfolding_all rfl)
set_option maxRecDepth 20000 in
theorem b_131i61_0 {d nS : Nat} {M : am_M} {Q : Option Value → am_H → Prop} : am_Wp (d + 1) 131 0 [.ref 26, .ref 147] [] (hp nS M) Q = am_Wp d 296 0 [.int 8, .int 8] [] (hp nS M) (fun v h1 => am_Wp (d + 1) 131 11 [.ref 26, .ref 147] (am_ans v [.int 0, .ref 147, .int 0, .ref 26]) h1 Q) := by
  refine (eq_run 8 (q := (8, [.ref 26, .ref 147], [.int 8, .int 8, .int 0, .ref 147, .int 0, .ref 26], hp nS M)) (by with_unfolding_all rfl)).trans ?_
  exact eq_call2 (e := (.invokestatic 359, 3, 1, 296, 65)) (as := [.int 8, .int 8]) (r := [.int 0, .ref 147, .int 0, .ref 26]) (n := 2) (m := 2) (by with_unfolding_all rfl) rfl (by decide) (by with_unfolding_all rfl) (by decide) (by with_unfolding_all rfl) ⟨fun z => absurd z (by decide), fun z => by simp at z⟩
-- b_131i61_11: copy
theorem k_26_147 {d nS : Nat} {M : am_M} {Q : Option Value → am_H → Prop} : am_Wp (d + 1) 131 0 [.ref 26, .ref 147] [] (hp nS M) Q = Q none (hp nS (am_row M 147 (va_cpy (M 26) (M 147) 0 0 8))) := by
  rw [b_131i61_0, c_296, am_ans_some, show (if (8 : Int32) < 8 then (8 : Int32) else 8) = 8 from rfl]
  refine (eq_copy2 (e := (.invokestatic 362, 3, 6, 0, 66)) (na := 8) (nb := 8) (by with_unfolding_all rfl) rfl rfl (by with_unfolding_all rfl) (by with_unfolding_all rfl) (by decide) (by decide) (by decide) ⟨by decide, by decide, by decide⟩).trans ?_
  exact eq_retV2 (e := (.return_, 1, 0, 0, 0)) (by with_unfolding_all rfl) rfl (by with_unfolding_all rfl)
set_option maxRecDepth 20000 in
theorem b_131i62_0 {d nS : Nat} {M : am_M} {Q : Option Value → am_H → Prop} : am_Wp (d + 1) 131 0 [.ref 27, .ref 148] [] (hp nS M) Q = am_Wp d 296 0 [.int 10, .int 10] [] (hp nS M) (fun v h1 => am_Wp (d + 1) 131 11 [.ref 27, .ref 148] (am_ans v [.int 0, .ref 148, .int 0, .ref 27]) h1 Q) := by
  refine (eq_run 8 (q := (8, [.ref 27, .ref 148], [.int 10, .int 10, .int 0, .ref 148, .int 0, .ref 27], hp nS M)) (by with_unfolding_all rfl)).trans ?_
  exact eq_call2 (e := (.invokestatic 359, 3, 1, 296, 65)) (as := [.int 10, .int 10]) (r := [.int 0, .ref 148, .int 0, .ref 27]) (n := 2) (m := 2) (by with_unfolding_all rfl) rfl (by decide) (by with_unfolding_all rfl) (by decide) (by with_unfolding_all rfl) ⟨fun z => absurd z (by decide), fun z => by simp at z⟩
-- b_131i62_11: copy
theorem k_27_148 {d nS : Nat} {M : am_M} {Q : Option Value → am_H → Prop} : am_Wp (d + 1) 131 0 [.ref 27, .ref 148] [] (hp nS M) Q = Q none (hp nS (am_row M 148 (va_cpy (M 27) (M 148) 0 0 10))) := by
  rw [b_131i62_0, c_296, am_ans_some, show (if (10 : Int32) < 10 then (10 : Int32) else 10) = 10 from rfl]
  refine (eq_copy2 (e := (.invokestatic 362, 3, 6, 0, 66)) (na := 10) (nb := 10) (by with_unfolding_all rfl) rfl rfl (by with_unfolding_all rfl) (by with_unfolding_all rfl) (by decide) (by decide) (by decide) ⟨by decide, by decide, by decide⟩).trans ?_
  exact eq_retV2 (e := (.return_, 1, 0, 0, 0)) (by with_unfolding_all rfl) rfl (by with_unfolding_all rfl)
set_option maxRecDepth 20000 in
theorem b_131i63_0 {d nS : Nat} {M : am_M} {Q : Option Value → am_H → Prop} : am_Wp (d + 1) 131 0 [.ref 28, .ref 149] [] (hp nS M) Q = am_Wp d 296 0 [.int 10, .int 10] [] (hp nS M) (fun v h1 => am_Wp (d + 1) 131 11 [.ref 28, .ref 149] (am_ans v [.int 0, .ref 149, .int 0, .ref 28]) h1 Q) := by
  refine (eq_run 8 (q := (8, [.ref 28, .ref 149], [.int 10, .int 10, .int 0, .ref 149, .int 0, .ref 28], hp nS M)) (by with_unfolding_all rfl)).trans ?_
  exact eq_call2 (e := (.invokestatic 359, 3, 1, 296, 65)) (as := [.int 10, .int 10]) (r := [.int 0, .ref 149, .int 0, .ref 28]) (n := 2) (m := 2) (by with_unfolding_all rfl) rfl (by decide) (by with_unfolding_all rfl) (by decide) (by with_unfolding_all rfl) ⟨fun z => absurd z (by decide), fun z => by simp at z⟩
-- b_131i63_11: copy
theorem k_28_149 {d nS : Nat} {M : am_M} {Q : Option Value → am_H → Prop} : am_Wp (d + 1) 131 0 [.ref 28, .ref 149] [] (hp nS M) Q = Q none (hp nS (am_row M 149 (va_cpy (M 28) (M 149) 0 0 10))) := by
  rw [b_131i63_0, c_296, am_ans_some, show (if (10 : Int32) < 10 then (10 : Int32) else 10) = 10 from rfl]
  refine (eq_copy2 (e := (.invokestatic 362, 3, 6, 0, 66)) (na := 10) (nb := 10) (by with_unfolding_all rfl) rfl rfl (by with_unfolding_all rfl) (by with_unfolding_all rfl) (by decide) (by decide) (by decide) ⟨by decide, by decide, by decide⟩).trans ?_
  exact eq_retV2 (e := (.return_, 1, 0, 0, 0)) (by with_unfolding_all rfl) rfl (by with_unfolding_all rfl)
set_option maxRecDepth 20000 in
theorem b_131i64_0 {d nS : Nat} {M : am_M} {Q : Option Value → am_H → Prop} : am_Wp (d + 1) 131 0 [.ref 29, .ref 150] [] (hp nS M) Q = am_Wp d 296 0 [.int 80, .int 80] [] (hp nS M) (fun v h1 => am_Wp (d + 1) 131 11 [.ref 29, .ref 150] (am_ans v [.int 0, .ref 150, .int 0, .ref 29]) h1 Q) := by
  refine (eq_run 8 (q := (8, [.ref 29, .ref 150], [.int 80, .int 80, .int 0, .ref 150, .int 0, .ref 29], hp nS M)) (by with_unfolding_all rfl)).trans ?_
  exact eq_call2 (e := (.invokestatic 359, 3, 1, 296, 65)) (as := [.int 80, .int 80]) (r := [.int 0, .ref 150, .int 0, .ref 29]) (n := 2) (m := 2) (by with_unfolding_all rfl) rfl (by decide) (by with_unfolding_all rfl) (by decide) (by with_unfolding_all rfl) ⟨fun z => absurd z (by decide), fun z => by simp at z⟩
-- b_131i64_11: copy
theorem k_29_150 {d nS : Nat} {M : am_M} {Q : Option Value → am_H → Prop} : am_Wp (d + 1) 131 0 [.ref 29, .ref 150] [] (hp nS M) Q = Q none (hp nS (am_row M 150 (va_cpy (M 29) (M 150) 0 0 80))) := by
  rw [b_131i64_0, c_296, am_ans_some, show (if (80 : Int32) < 80 then (80 : Int32) else 80) = 80 from rfl]
  refine (eq_copy2 (e := (.invokestatic 362, 3, 6, 0, 66)) (na := 80) (nb := 80) (by with_unfolding_all rfl) rfl rfl (by with_unfolding_all rfl) (by with_unfolding_all rfl) (by decide) (by decide) (by decide) ⟨by decide, by decide, by decide⟩).trans ?_
  exact eq_retV2 (e := (.return_, 1, 0, 0, 0)) (by with_unfolding_all rfl) rfl (by with_unfolding_all rfl)
set_option maxRecDepth 20000 in
theorem b_131i65_0 {d nS : Nat} {M : am_M} {Q : Option Value → am_H → Prop} : am_Wp (d + 1) 131 0 [.ref 19, .ref 128] [] (hp nS M) Q = am_Wp d 296 0 [.int 6, .int 6] [] (hp nS M) (fun v h1 => am_Wp (d + 1) 131 11 [.ref 19, .ref 128] (am_ans v [.int 0, .ref 128, .int 0, .ref 19]) h1 Q) := by
  refine (eq_run 8 (q := (8, [.ref 19, .ref 128], [.int 6, .int 6, .int 0, .ref 128, .int 0, .ref 19], hp nS M)) (by with_unfolding_all rfl)).trans ?_
  exact eq_call2 (e := (.invokestatic 359, 3, 1, 296, 65)) (as := [.int 6, .int 6]) (r := [.int 0, .ref 128, .int 0, .ref 19]) (n := 2) (m := 2) (by with_unfolding_all rfl) rfl (by decide) (by with_unfolding_all rfl) (by decide) (by with_unfolding_all rfl) ⟨fun z => absurd z (by decide), fun z => by simp at z⟩
-- b_131i65_11: copy
theorem k_19_128 {d nS : Nat} {M : am_M} {Q : Option Value → am_H → Prop} : am_Wp (d + 1) 131 0 [.ref 19, .ref 128] [] (hp nS M) Q = Q none (hp nS (am_row M 128 (va_cpy (M 19) (M 128) 0 0 6))) := by
  rw [b_131i65_0, c_296, am_ans_some, show (if (6 : Int32) < 6 then (6 : Int32) else 6) = 6 from rfl]
  refine (eq_copy2 (e := (.invokestatic 362, 3, 6, 0, 66)) (na := 6) (nb := 6) (by with_unfolding_all rfl) rfl rfl (by with_unfolding_all rfl) (by with_unfolding_all rfl) (by decide) (by decide) (by decide) ⟨by decide, by decide, by decide⟩).trans ?_
  exact eq_retV2 (e := (.return_, 1, 0, 0, 0)) (by with_unfolding_all rfl) rfl (by with_unfolding_all rfl)
set_option maxRecDepth 20000 in
theorem b_131i66_0 {d nS : Nat} {M : am_M} {Q : Option Value → am_H → Prop} : am_Wp (d + 1) 131 0 [.ref 20, .ref 129] [] (hp nS M) Q = am_Wp d 296 0 [.int 6, .int 6] [] (hp nS M) (fun v h1 => am_Wp (d + 1) 131 11 [.ref 20, .ref 129] (am_ans v [.int 0, .ref 129, .int 0, .ref 20]) h1 Q) := by
  refine (eq_run 8 (q := (8, [.ref 20, .ref 129], [.int 6, .int 6, .int 0, .ref 129, .int 0, .ref 20], hp nS M)) (by with_unfolding_all rfl)).trans ?_
  exact eq_call2 (e := (.invokestatic 359, 3, 1, 296, 65)) (as := [.int 6, .int 6]) (r := [.int 0, .ref 129, .int 0, .ref 20]) (n := 2) (m := 2) (by with_unfolding_all rfl) rfl (by decide) (by with_unfolding_all rfl) (by decide) (by with_unfolding_all rfl) ⟨fun z => absurd z (by decide), fun z => by simp at z⟩
-- b_131i66_11: copy
theorem k_20_129 {d nS : Nat} {M : am_M} {Q : Option Value → am_H → Prop} : am_Wp (d + 1) 131 0 [.ref 20, .ref 129] [] (hp nS M) Q = Q none (hp nS (am_row M 129 (va_cpy (M 20) (M 129) 0 0 6))) := by
  rw [b_131i66_0, c_296, am_ans_some, show (if (6 : Int32) < 6 then (6 : Int32) else 6) = 6 from rfl]
  refine (eq_copy2 (e := (.invokestatic 362, 3, 6, 0, 66)) (na := 6) (nb := 6) (by with_unfolding_all rfl) rfl rfl (by with_unfolding_all rfl) (by with_unfolding_all rfl) (by decide) (by decide) (by decide) ⟨by decide, by decide, by decide⟩).trans ?_
  exact eq_retV2 (e := (.return_, 1, 0, 0, 0)) (by with_unfolding_all rfl) rfl (by with_unfolding_all rfl)
set_option maxRecDepth 20000 in
theorem b_131i67_0 {d nS : Nat} {M : am_M} {Q : Option Value → am_H → Prop} : am_Wp (d + 1) 131 0 [.ref 21, .ref 130] [] (hp nS M) Q = am_Wp d 296 0 [.int 6, .int 6] [] (hp nS M) (fun v h1 => am_Wp (d + 1) 131 11 [.ref 21, .ref 130] (am_ans v [.int 0, .ref 130, .int 0, .ref 21]) h1 Q) := by
  refine (eq_run 8 (q := (8, [.ref 21, .ref 130], [.int 6, .int 6, .int 0, .ref 130, .int 0, .ref 21], hp nS M)) (by with_unfolding_all rfl)).trans ?_
  exact eq_call2 (e := (.invokestatic 359, 3, 1, 296, 65)) (as := [.int 6, .int 6]) (r := [.int 0, .ref 130, .int 0, .ref 21]) (n := 2) (m := 2) (by with_unfolding_all rfl) rfl (by decide) (by with_unfolding_all rfl) (by decide) (by with_unfolding_all rfl) ⟨fun z => absurd z (by decide), fun z => by simp at z⟩
-- b_131i67_11: copy
theorem k_21_130 {d nS : Nat} {M : am_M} {Q : Option Value → am_H → Prop} : am_Wp (d + 1) 131 0 [.ref 21, .ref 130] [] (hp nS M) Q = Q none (hp nS (am_row M 130 (va_cpy (M 21) (M 130) 0 0 6))) := by
  rw [b_131i67_0, c_296, am_ans_some, show (if (6 : Int32) < 6 then (6 : Int32) else 6) = 6 from rfl]
  refine (eq_copy2 (e := (.invokestatic 362, 3, 6, 0, 66)) (na := 6) (nb := 6) (by with_unfolding_all rfl) rfl rfl (by with_unfolding_all rfl) (by with_unfolding_all rfl) (by decide) (by decide) (by decide) ⟨by decide, by decide, by decide⟩).trans ?_
  exact eq_retV2 (e := (.return_, 1, 0, 0, 0)) (by with_unfolding_all rfl) rfl (by with_unfolding_all rfl)
set_option maxRecDepth 20000 in
theorem b_131i68_0 {d nS : Nat} {M : am_M} {Q : Option Value → am_H → Prop} : am_Wp (d + 1) 131 0 [.ref 22, .ref 131] [] (hp nS M) Q = am_Wp d 296 0 [.int 6, .int 6] [] (hp nS M) (fun v h1 => am_Wp (d + 1) 131 11 [.ref 22, .ref 131] (am_ans v [.int 0, .ref 131, .int 0, .ref 22]) h1 Q) := by
  refine (eq_run 8 (q := (8, [.ref 22, .ref 131], [.int 6, .int 6, .int 0, .ref 131, .int 0, .ref 22], hp nS M)) (by with_unfolding_all rfl)).trans ?_
  exact eq_call2 (e := (.invokestatic 359, 3, 1, 296, 65)) (as := [.int 6, .int 6]) (r := [.int 0, .ref 131, .int 0, .ref 22]) (n := 2) (m := 2) (by with_unfolding_all rfl) rfl (by decide) (by with_unfolding_all rfl) (by decide) (by with_unfolding_all rfl) ⟨fun z => absurd z (by decide), fun z => by simp at z⟩
-- b_131i68_11: copy
theorem k_22_131 {d nS : Nat} {M : am_M} {Q : Option Value → am_H → Prop} : am_Wp (d + 1) 131 0 [.ref 22, .ref 131] [] (hp nS M) Q = Q none (hp nS (am_row M 131 (va_cpy (M 22) (M 131) 0 0 6))) := by
  rw [b_131i68_0, c_296, am_ans_some, show (if (6 : Int32) < 6 then (6 : Int32) else 6) = 6 from rfl]
  refine (eq_copy2 (e := (.invokestatic 362, 3, 6, 0, 66)) (na := 6) (nb := 6) (by with_unfolding_all rfl) rfl rfl (by with_unfolding_all rfl) (by with_unfolding_all rfl) (by decide) (by decide) (by decide) ⟨by decide, by decide, by decide⟩).trans ?_
  exact eq_retV2 (e := (.return_, 1, 0, 0, 0)) (by with_unfolding_all rfl) rfl (by with_unfolding_all rfl)
set_option maxRecDepth 20000 in
theorem b_131i69_0 {d nS : Nat} {M : am_M} {Q : Option Value → am_H → Prop} : am_Wp (d + 1) 131 0 [.ref 23, .ref 132] [] (hp nS M) Q = am_Wp d 296 0 [.int 6, .int 6] [] (hp nS M) (fun v h1 => am_Wp (d + 1) 131 11 [.ref 23, .ref 132] (am_ans v [.int 0, .ref 132, .int 0, .ref 23]) h1 Q) := by
  refine (eq_run 8 (q := (8, [.ref 23, .ref 132], [.int 6, .int 6, .int 0, .ref 132, .int 0, .ref 23], hp nS M)) (by with_unfolding_all rfl)).trans ?_
  exact eq_call2 (e := (.invokestatic 359, 3, 1, 296, 65)) (as := [.int 6, .int 6]) (r := [.int 0, .ref 132, .int 0, .ref 23]) (n := 2) (m := 2) (by with_unfolding_all rfl) rfl (by decide) (by with_unfolding_all rfl) (by decide) (by with_unfolding_all rfl) ⟨fun z => absurd z (by decide), fun z => by simp at z⟩
-- b_131i69_11: copy
theorem k_23_132 {d nS : Nat} {M : am_M} {Q : Option Value → am_H → Prop} : am_Wp (d + 1) 131 0 [.ref 23, .ref 132] [] (hp nS M) Q = Q none (hp nS (am_row M 132 (va_cpy (M 23) (M 132) 0 0 6))) := by
  rw [b_131i69_0, c_296, am_ans_some, show (if (6 : Int32) < 6 then (6 : Int32) else 6) = 6 from rfl]
  refine (eq_copy2 (e := (.invokestatic 362, 3, 6, 0, 66)) (na := 6) (nb := 6) (by with_unfolding_all rfl) rfl rfl (by with_unfolding_all rfl) (by with_unfolding_all rfl) (by decide) (by decide) (by decide) ⟨by decide, by decide, by decide⟩).trans ?_
  exact eq_retV2 (e := (.return_, 1, 0, 0, 0)) (by with_unfolding_all rfl) rfl (by with_unfolding_all rfl)
set_option maxRecDepth 20000 in
theorem b_131i70_0 {d nS : Nat} {M : am_M} {Q : Option Value → am_H → Prop} : am_Wp (d + 1) 131 0 [.ref 24, .ref 133] [] (hp nS M) Q = am_Wp d 296 0 [.int 8, .int 8] [] (hp nS M) (fun v h1 => am_Wp (d + 1) 131 11 [.ref 24, .ref 133] (am_ans v [.int 0, .ref 133, .int 0, .ref 24]) h1 Q) := by
  refine (eq_run 8 (q := (8, [.ref 24, .ref 133], [.int 8, .int 8, .int 0, .ref 133, .int 0, .ref 24], hp nS M)) (by with_unfolding_all rfl)).trans ?_
  exact eq_call2 (e := (.invokestatic 359, 3, 1, 296, 65)) (as := [.int 8, .int 8]) (r := [.int 0, .ref 133, .int 0, .ref 24]) (n := 2) (m := 2) (by with_unfolding_all rfl) rfl (by decide) (by with_unfolding_all rfl) (by decide) (by with_unfolding_all rfl) ⟨fun z => absurd z (by decide), fun z => by simp at z⟩
-- b_131i70_11: copy
theorem k_24_133 {d nS : Nat} {M : am_M} {Q : Option Value → am_H → Prop} : am_Wp (d + 1) 131 0 [.ref 24, .ref 133] [] (hp nS M) Q = Q none (hp nS (am_row M 133 (va_cpy (M 24) (M 133) 0 0 8))) := by
  rw [b_131i70_0, c_296, am_ans_some, show (if (8 : Int32) < 8 then (8 : Int32) else 8) = 8 from rfl]
  refine (eq_copy2 (e := (.invokestatic 362, 3, 6, 0, 66)) (na := 8) (nb := 8) (by with_unfolding_all rfl) rfl rfl (by with_unfolding_all rfl) (by with_unfolding_all rfl) (by decide) (by decide) (by decide) ⟨by decide, by decide, by decide⟩).trans ?_
  exact eq_retV2 (e := (.return_, 1, 0, 0, 0)) (by with_unfolding_all rfl) rfl (by with_unfolding_all rfl)
set_option maxRecDepth 20000 in
theorem b_131i71_0 {d nS : Nat} {M : am_M} {Q : Option Value → am_H → Prop} : am_Wp (d + 1) 131 0 [.ref 25, .ref 134] [] (hp nS M) Q = am_Wp d 296 0 [.int 8, .int 8] [] (hp nS M) (fun v h1 => am_Wp (d + 1) 131 11 [.ref 25, .ref 134] (am_ans v [.int 0, .ref 134, .int 0, .ref 25]) h1 Q) := by
  refine (eq_run 8 (q := (8, [.ref 25, .ref 134], [.int 8, .int 8, .int 0, .ref 134, .int 0, .ref 25], hp nS M)) (by with_unfolding_all rfl)).trans ?_
  exact eq_call2 (e := (.invokestatic 359, 3, 1, 296, 65)) (as := [.int 8, .int 8]) (r := [.int 0, .ref 134, .int 0, .ref 25]) (n := 2) (m := 2) (by with_unfolding_all rfl) rfl (by decide) (by with_unfolding_all rfl) (by decide) (by with_unfolding_all rfl) ⟨fun z => absurd z (by decide), fun z => by simp at z⟩
-- b_131i71_11: copy
theorem k_25_134 {d nS : Nat} {M : am_M} {Q : Option Value → am_H → Prop} : am_Wp (d + 1) 131 0 [.ref 25, .ref 134] [] (hp nS M) Q = Q none (hp nS (am_row M 134 (va_cpy (M 25) (M 134) 0 0 8))) := by
  rw [b_131i71_0, c_296, am_ans_some, show (if (8 : Int32) < 8 then (8 : Int32) else 8) = 8 from rfl]
  refine (eq_copy2 (e := (.invokestatic 362, 3, 6, 0, 66)) (na := 8) (nb := 8) (by with_unfolding_all rfl) rfl rfl (by with_unfolding_all rfl) (by with_unfolding_all rfl) (by decide) (by decide) (by decide) ⟨by decide, by decide, by decide⟩).trans ?_
  exact eq_retV2 (e := (.return_, 1, 0, 0, 0)) (by with_unfolding_all rfl) rfl (by with_unfolding_all rfl)
set_option maxRecDepth 20000 in
theorem b_131i72_0 {d nS : Nat} {M : am_M} {Q : Option Value → am_H → Prop} : am_Wp (d + 1) 131 0 [.ref 26, .ref 135] [] (hp nS M) Q = am_Wp d 296 0 [.int 8, .int 8] [] (hp nS M) (fun v h1 => am_Wp (d + 1) 131 11 [.ref 26, .ref 135] (am_ans v [.int 0, .ref 135, .int 0, .ref 26]) h1 Q) := by
  refine (eq_run 8 (q := (8, [.ref 26, .ref 135], [.int 8, .int 8, .int 0, .ref 135, .int 0, .ref 26], hp nS M)) (by with_unfolding_all rfl)).trans ?_
  exact eq_call2 (e := (.invokestatic 359, 3, 1, 296, 65)) (as := [.int 8, .int 8]) (r := [.int 0, .ref 135, .int 0, .ref 26]) (n := 2) (m := 2) (by with_unfolding_all rfl) rfl (by decide) (by with_unfolding_all rfl) (by decide) (by with_unfolding_all rfl) ⟨fun z => absurd z (by decide), fun z => by simp at z⟩
-- b_131i72_11: copy
theorem k_26_135 {d nS : Nat} {M : am_M} {Q : Option Value → am_H → Prop} : am_Wp (d + 1) 131 0 [.ref 26, .ref 135] [] (hp nS M) Q = Q none (hp nS (am_row M 135 (va_cpy (M 26) (M 135) 0 0 8))) := by
  rw [b_131i72_0, c_296, am_ans_some, show (if (8 : Int32) < 8 then (8 : Int32) else 8) = 8 from rfl]
  refine (eq_copy2 (e := (.invokestatic 362, 3, 6, 0, 66)) (na := 8) (nb := 8) (by with_unfolding_all rfl) rfl rfl (by with_unfolding_all rfl) (by with_unfolding_all rfl) (by decide) (by decide) (by decide) ⟨by decide, by decide, by decide⟩).trans ?_
  exact eq_retV2 (e := (.return_, 1, 0, 0, 0)) (by with_unfolding_all rfl) rfl (by with_unfolding_all rfl)
set_option maxRecDepth 20000 in
theorem b_131i73_0 {d nS : Nat} {M : am_M} {Q : Option Value → am_H → Prop} : am_Wp (d + 1) 131 0 [.ref 27, .ref 136] [] (hp nS M) Q = am_Wp d 296 0 [.int 10, .int 10] [] (hp nS M) (fun v h1 => am_Wp (d + 1) 131 11 [.ref 27, .ref 136] (am_ans v [.int 0, .ref 136, .int 0, .ref 27]) h1 Q) := by
  refine (eq_run 8 (q := (8, [.ref 27, .ref 136], [.int 10, .int 10, .int 0, .ref 136, .int 0, .ref 27], hp nS M)) (by with_unfolding_all rfl)).trans ?_
  exact eq_call2 (e := (.invokestatic 359, 3, 1, 296, 65)) (as := [.int 10, .int 10]) (r := [.int 0, .ref 136, .int 0, .ref 27]) (n := 2) (m := 2) (by with_unfolding_all rfl) rfl (by decide) (by with_unfolding_all rfl) (by decide) (by with_unfolding_all rfl) ⟨fun z => absurd z (by decide), fun z => by simp at z⟩
-- b_131i73_11: copy
theorem k_27_136 {d nS : Nat} {M : am_M} {Q : Option Value → am_H → Prop} : am_Wp (d + 1) 131 0 [.ref 27, .ref 136] [] (hp nS M) Q = Q none (hp nS (am_row M 136 (va_cpy (M 27) (M 136) 0 0 10))) := by
  rw [b_131i73_0, c_296, am_ans_some, show (if (10 : Int32) < 10 then (10 : Int32) else 10) = 10 from rfl]
  refine (eq_copy2 (e := (.invokestatic 362, 3, 6, 0, 66)) (na := 10) (nb := 10) (by with_unfolding_all rfl) rfl rfl (by with_unfolding_all rfl) (by with_unfolding_all rfl) (by decide) (by decide) (by decide) ⟨by decide, by decide, by decide⟩).trans ?_
  exact eq_retV2 (e := (.return_, 1, 0, 0, 0)) (by with_unfolding_all rfl) rfl (by with_unfolding_all rfl)
set_option maxRecDepth 20000 in
theorem b_131i74_0 {d nS : Nat} {M : am_M} {Q : Option Value → am_H → Prop} : am_Wp (d + 1) 131 0 [.ref 28, .ref 137] [] (hp nS M) Q = am_Wp d 296 0 [.int 10, .int 10] [] (hp nS M) (fun v h1 => am_Wp (d + 1) 131 11 [.ref 28, .ref 137] (am_ans v [.int 0, .ref 137, .int 0, .ref 28]) h1 Q) := by
  refine (eq_run 8 (q := (8, [.ref 28, .ref 137], [.int 10, .int 10, .int 0, .ref 137, .int 0, .ref 28], hp nS M)) (by with_unfolding_all rfl)).trans ?_
  exact eq_call2 (e := (.invokestatic 359, 3, 1, 296, 65)) (as := [.int 10, .int 10]) (r := [.int 0, .ref 137, .int 0, .ref 28]) (n := 2) (m := 2) (by with_unfolding_all rfl) rfl (by decide) (by with_unfolding_all rfl) (by decide) (by with_unfolding_all rfl) ⟨fun z => absurd z (by decide), fun z => by simp at z⟩
-- b_131i74_11: copy
theorem k_28_137 {d nS : Nat} {M : am_M} {Q : Option Value → am_H → Prop} : am_Wp (d + 1) 131 0 [.ref 28, .ref 137] [] (hp nS M) Q = Q none (hp nS (am_row M 137 (va_cpy (M 28) (M 137) 0 0 10))) := by
  rw [b_131i74_0, c_296, am_ans_some, show (if (10 : Int32) < 10 then (10 : Int32) else 10) = 10 from rfl]
  refine (eq_copy2 (e := (.invokestatic 362, 3, 6, 0, 66)) (na := 10) (nb := 10) (by with_unfolding_all rfl) rfl rfl (by with_unfolding_all rfl) (by with_unfolding_all rfl) (by decide) (by decide) (by decide) ⟨by decide, by decide, by decide⟩).trans ?_
  exact eq_retV2 (e := (.return_, 1, 0, 0, 0)) (by with_unfolding_all rfl) rfl (by with_unfolding_all rfl)
set_option maxRecDepth 20000 in
theorem b_131i75_0 {d nS : Nat} {M : am_M} {Q : Option Value → am_H → Prop} : am_Wp (d + 1) 131 0 [.ref 29, .ref 138] [] (hp nS M) Q = am_Wp d 296 0 [.int 80, .int 80] [] (hp nS M) (fun v h1 => am_Wp (d + 1) 131 11 [.ref 29, .ref 138] (am_ans v [.int 0, .ref 138, .int 0, .ref 29]) h1 Q) := by
  refine (eq_run 8 (q := (8, [.ref 29, .ref 138], [.int 80, .int 80, .int 0, .ref 138, .int 0, .ref 29], hp nS M)) (by with_unfolding_all rfl)).trans ?_
  exact eq_call2 (e := (.invokestatic 359, 3, 1, 296, 65)) (as := [.int 80, .int 80]) (r := [.int 0, .ref 138, .int 0, .ref 29]) (n := 2) (m := 2) (by with_unfolding_all rfl) rfl (by decide) (by with_unfolding_all rfl) (by decide) (by with_unfolding_all rfl) ⟨fun z => absurd z (by decide), fun z => by simp at z⟩
-- b_131i75_11: copy
theorem k_29_138 {d nS : Nat} {M : am_M} {Q : Option Value → am_H → Prop} : am_Wp (d + 1) 131 0 [.ref 29, .ref 138] [] (hp nS M) Q = Q none (hp nS (am_row M 138 (va_cpy (M 29) (M 138) 0 0 80))) := by
  rw [b_131i75_0, c_296, am_ans_some, show (if (80 : Int32) < 80 then (80 : Int32) else 80) = 80 from rfl]
  refine (eq_copy2 (e := (.invokestatic 362, 3, 6, 0, 66)) (na := 80) (nb := 80) (by with_unfolding_all rfl) rfl rfl (by with_unfolding_all rfl) (by with_unfolding_all rfl) (by decide) (by decide) (by decide) ⟨by decide, by decide, by decide⟩).trans ?_
  exact eq_retV2 (e := (.return_, 1, 0, 0, 0)) (by with_unfolding_all rfl) rfl (by with_unfolding_all rfl)
set_option maxRecDepth 20000 in
theorem b_131i76_0 {d nS : Nat} {M : am_M} {Q : Option Value → am_H → Prop} : am_Wp (d + 1) 131 0 [.ref 19, .ref 116] [] (hp nS M) Q = am_Wp d 296 0 [.int 6, .int 6] [] (hp nS M) (fun v h1 => am_Wp (d + 1) 131 11 [.ref 19, .ref 116] (am_ans v [.int 0, .ref 116, .int 0, .ref 19]) h1 Q) := by
  refine (eq_run 8 (q := (8, [.ref 19, .ref 116], [.int 6, .int 6, .int 0, .ref 116, .int 0, .ref 19], hp nS M)) (by with_unfolding_all rfl)).trans ?_
  exact eq_call2 (e := (.invokestatic 359, 3, 1, 296, 65)) (as := [.int 6, .int 6]) (r := [.int 0, .ref 116, .int 0, .ref 19]) (n := 2) (m := 2) (by with_unfolding_all rfl) rfl (by decide) (by with_unfolding_all rfl) (by decide) (by with_unfolding_all rfl) ⟨fun z => absurd z (by decide), fun z => by simp at z⟩
-- b_131i76_11: copy
theorem k_19_116 {d nS : Nat} {M : am_M} {Q : Option Value → am_H → Prop} : am_Wp (d + 1) 131 0 [.ref 19, .ref 116] [] (hp nS M) Q = Q none (hp nS (am_row M 116 (va_cpy (M 19) (M 116) 0 0 6))) := by
  rw [b_131i76_0, c_296, am_ans_some, show (if (6 : Int32) < 6 then (6 : Int32) else 6) = 6 from rfl]
  refine (eq_copy2 (e := (.invokestatic 362, 3, 6, 0, 66)) (na := 6) (nb := 6) (by with_unfolding_all rfl) rfl rfl (by with_unfolding_all rfl) (by with_unfolding_all rfl) (by decide) (by decide) (by decide) ⟨by decide, by decide, by decide⟩).trans ?_
  exact eq_retV2 (e := (.return_, 1, 0, 0, 0)) (by with_unfolding_all rfl) rfl (by with_unfolding_all rfl)
set_option maxRecDepth 20000 in
theorem b_131i77_0 {d nS : Nat} {M : am_M} {Q : Option Value → am_H → Prop} : am_Wp (d + 1) 131 0 [.ref 20, .ref 117] [] (hp nS M) Q = am_Wp d 296 0 [.int 6, .int 6] [] (hp nS M) (fun v h1 => am_Wp (d + 1) 131 11 [.ref 20, .ref 117] (am_ans v [.int 0, .ref 117, .int 0, .ref 20]) h1 Q) := by
  refine (eq_run 8 (q := (8, [.ref 20, .ref 117], [.int 6, .int 6, .int 0, .ref 117, .int 0, .ref 20], hp nS M)) (by with_unfolding_all rfl)).trans ?_
  exact eq_call2 (e := (.invokestatic 359, 3, 1, 296, 65)) (as := [.int 6, .int 6]) (r := [.int 0, .ref 117, .int 0, .ref 20]) (n := 2) (m := 2) (by with_unfolding_all rfl) rfl (by decide) (by with_unfolding_all rfl) (by decide) (by with_unfolding_all rfl) ⟨fun z => absurd z (by decide), fun z => by simp at z⟩
-- b_131i77_11: copy
theorem k_20_117 {d nS : Nat} {M : am_M} {Q : Option Value → am_H → Prop} : am_Wp (d + 1) 131 0 [.ref 20, .ref 117] [] (hp nS M) Q = Q none (hp nS (am_row M 117 (va_cpy (M 20) (M 117) 0 0 6))) := by
  rw [b_131i77_0, c_296, am_ans_some, show (if (6 : Int32) < 6 then (6 : Int32) else 6) = 6 from rfl]
  refine (eq_copy2 (e := (.invokestatic 362, 3, 6, 0, 66)) (na := 6) (nb := 6) (by with_unfolding_all rfl) rfl rfl (by with_unfolding_all rfl) (by with_unfolding_all rfl) (by decide) (by decide) (by decide) ⟨by decide, by decide, by decide⟩).trans ?_
  exact eq_retV2 (e := (.return_, 1, 0, 0, 0)) (by with_unfolding_all rfl) rfl (by with_unfolding_all rfl)
set_option maxRecDepth 20000 in
theorem b_131i78_0 {d nS : Nat} {M : am_M} {Q : Option Value → am_H → Prop} : am_Wp (d + 1) 131 0 [.ref 21, .ref 118] [] (hp nS M) Q = am_Wp d 296 0 [.int 6, .int 6] [] (hp nS M) (fun v h1 => am_Wp (d + 1) 131 11 [.ref 21, .ref 118] (am_ans v [.int 0, .ref 118, .int 0, .ref 21]) h1 Q) := by
  refine (eq_run 8 (q := (8, [.ref 21, .ref 118], [.int 6, .int 6, .int 0, .ref 118, .int 0, .ref 21], hp nS M)) (by with_unfolding_all rfl)).trans ?_
  exact eq_call2 (e := (.invokestatic 359, 3, 1, 296, 65)) (as := [.int 6, .int 6]) (r := [.int 0, .ref 118, .int 0, .ref 21]) (n := 2) (m := 2) (by with_unfolding_all rfl) rfl (by decide) (by with_unfolding_all rfl) (by decide) (by with_unfolding_all rfl) ⟨fun z => absurd z (by decide), fun z => by simp at z⟩
-- b_131i78_11: copy
theorem k_21_118 {d nS : Nat} {M : am_M} {Q : Option Value → am_H → Prop} : am_Wp (d + 1) 131 0 [.ref 21, .ref 118] [] (hp nS M) Q = Q none (hp nS (am_row M 118 (va_cpy (M 21) (M 118) 0 0 6))) := by
  rw [b_131i78_0, c_296, am_ans_some, show (if (6 : Int32) < 6 then (6 : Int32) else 6) = 6 from rfl]
  refine (eq_copy2 (e := (.invokestatic 362, 3, 6, 0, 66)) (na := 6) (nb := 6) (by with_unfolding_all rfl) rfl rfl (by with_unfolding_all rfl) (by with_unfolding_all rfl) (by decide) (by decide) (by decide) ⟨by decide, by decide, by decide⟩).trans ?_
  exact eq_retV2 (e := (.return_, 1, 0, 0, 0)) (by with_unfolding_all rfl) rfl (by with_unfolding_all rfl)
set_option maxRecDepth 20000 in
theorem b_131i79_0 {d nS : Nat} {M : am_M} {Q : Option Value → am_H → Prop} : am_Wp (d + 1) 131 0 [.ref 22, .ref 119] [] (hp nS M) Q = am_Wp d 296 0 [.int 6, .int 6] [] (hp nS M) (fun v h1 => am_Wp (d + 1) 131 11 [.ref 22, .ref 119] (am_ans v [.int 0, .ref 119, .int 0, .ref 22]) h1 Q) := by
  refine (eq_run 8 (q := (8, [.ref 22, .ref 119], [.int 6, .int 6, .int 0, .ref 119, .int 0, .ref 22], hp nS M)) (by with_unfolding_all rfl)).trans ?_
  exact eq_call2 (e := (.invokestatic 359, 3, 1, 296, 65)) (as := [.int 6, .int 6]) (r := [.int 0, .ref 119, .int 0, .ref 22]) (n := 2) (m := 2) (by with_unfolding_all rfl) rfl (by decide) (by with_unfolding_all rfl) (by decide) (by with_unfolding_all rfl) ⟨fun z => absurd z (by decide), fun z => by simp at z⟩
-- b_131i79_11: copy
theorem k_22_119 {d nS : Nat} {M : am_M} {Q : Option Value → am_H → Prop} : am_Wp (d + 1) 131 0 [.ref 22, .ref 119] [] (hp nS M) Q = Q none (hp nS (am_row M 119 (va_cpy (M 22) (M 119) 0 0 6))) := by
  rw [b_131i79_0, c_296, am_ans_some, show (if (6 : Int32) < 6 then (6 : Int32) else 6) = 6 from rfl]
  refine (eq_copy2 (e := (.invokestatic 362, 3, 6, 0, 66)) (na := 6) (nb := 6) (by with_unfolding_all rfl) rfl rfl (by with_unfolding_all rfl) (by with_unfolding_all rfl) (by decide) (by decide) (by decide) ⟨by decide, by decide, by decide⟩).trans ?_
  exact eq_retV2 (e := (.return_, 1, 0, 0, 0)) (by with_unfolding_all rfl) rfl (by with_unfolding_all rfl)
set_option maxRecDepth 20000 in
theorem b_131i80_0 {d nS : Nat} {M : am_M} {Q : Option Value → am_H → Prop} : am_Wp (d + 1) 131 0 [.ref 23, .ref 120] [] (hp nS M) Q = am_Wp d 296 0 [.int 6, .int 6] [] (hp nS M) (fun v h1 => am_Wp (d + 1) 131 11 [.ref 23, .ref 120] (am_ans v [.int 0, .ref 120, .int 0, .ref 23]) h1 Q) := by
  refine (eq_run 8 (q := (8, [.ref 23, .ref 120], [.int 6, .int 6, .int 0, .ref 120, .int 0, .ref 23], hp nS M)) (by with_unfolding_all rfl)).trans ?_
  exact eq_call2 (e := (.invokestatic 359, 3, 1, 296, 65)) (as := [.int 6, .int 6]) (r := [.int 0, .ref 120, .int 0, .ref 23]) (n := 2) (m := 2) (by with_unfolding_all rfl) rfl (by decide) (by with_unfolding_all rfl) (by decide) (by with_unfolding_all rfl) ⟨fun z => absurd z (by decide), fun z => by simp at z⟩
-- b_131i80_11: copy
theorem k_23_120 {d nS : Nat} {M : am_M} {Q : Option Value → am_H → Prop} : am_Wp (d + 1) 131 0 [.ref 23, .ref 120] [] (hp nS M) Q = Q none (hp nS (am_row M 120 (va_cpy (M 23) (M 120) 0 0 6))) := by
  rw [b_131i80_0, c_296, am_ans_some, show (if (6 : Int32) < 6 then (6 : Int32) else 6) = 6 from rfl]
  refine (eq_copy2 (e := (.invokestatic 362, 3, 6, 0, 66)) (na := 6) (nb := 6) (by with_unfolding_all rfl) rfl rfl (by with_unfolding_all rfl) (by with_unfolding_all rfl) (by decide) (by decide) (by decide) ⟨by decide, by decide, by decide⟩).trans ?_
  exact eq_retV2 (e := (.return_, 1, 0, 0, 0)) (by with_unfolding_all rfl) rfl (by with_unfolding_all rfl)
set_option maxRecDepth 20000 in
theorem b_131i81_0 {d nS : Nat} {M : am_M} {Q : Option Value → am_H → Prop} : am_Wp (d + 1) 131 0 [.ref 24, .ref 121] [] (hp nS M) Q = am_Wp d 296 0 [.int 8, .int 8] [] (hp nS M) (fun v h1 => am_Wp (d + 1) 131 11 [.ref 24, .ref 121] (am_ans v [.int 0, .ref 121, .int 0, .ref 24]) h1 Q) := by
  refine (eq_run 8 (q := (8, [.ref 24, .ref 121], [.int 8, .int 8, .int 0, .ref 121, .int 0, .ref 24], hp nS M)) (by with_unfolding_all rfl)).trans ?_
  exact eq_call2 (e := (.invokestatic 359, 3, 1, 296, 65)) (as := [.int 8, .int 8]) (r := [.int 0, .ref 121, .int 0, .ref 24]) (n := 2) (m := 2) (by with_unfolding_all rfl) rfl (by decide) (by with_unfolding_all rfl) (by decide) (by with_unfolding_all rfl) ⟨fun z => absurd z (by decide), fun z => by simp at z⟩
-- b_131i81_11: copy
theorem k_24_121 {d nS : Nat} {M : am_M} {Q : Option Value → am_H → Prop} : am_Wp (d + 1) 131 0 [.ref 24, .ref 121] [] (hp nS M) Q = Q none (hp nS (am_row M 121 (va_cpy (M 24) (M 121) 0 0 8))) := by
  rw [b_131i81_0, c_296, am_ans_some, show (if (8 : Int32) < 8 then (8 : Int32) else 8) = 8 from rfl]
  refine (eq_copy2 (e := (.invokestatic 362, 3, 6, 0, 66)) (na := 8) (nb := 8) (by with_unfolding_all rfl) rfl rfl (by with_unfolding_all rfl) (by with_unfolding_all rfl) (by decide) (by decide) (by decide) ⟨by decide, by decide, by decide⟩).trans ?_
  exact eq_retV2 (e := (.return_, 1, 0, 0, 0)) (by with_unfolding_all rfl) rfl (by with_unfolding_all rfl)
set_option maxRecDepth 20000 in
theorem b_131i82_0 {d nS : Nat} {M : am_M} {Q : Option Value → am_H → Prop} : am_Wp (d + 1) 131 0 [.ref 25, .ref 122] [] (hp nS M) Q = am_Wp d 296 0 [.int 8, .int 8] [] (hp nS M) (fun v h1 => am_Wp (d + 1) 131 11 [.ref 25, .ref 122] (am_ans v [.int 0, .ref 122, .int 0, .ref 25]) h1 Q) := by
  refine (eq_run 8 (q := (8, [.ref 25, .ref 122], [.int 8, .int 8, .int 0, .ref 122, .int 0, .ref 25], hp nS M)) (by with_unfolding_all rfl)).trans ?_
  exact eq_call2 (e := (.invokestatic 359, 3, 1, 296, 65)) (as := [.int 8, .int 8]) (r := [.int 0, .ref 122, .int 0, .ref 25]) (n := 2) (m := 2) (by with_unfolding_all rfl) rfl (by decide) (by with_unfolding_all rfl) (by decide) (by with_unfolding_all rfl) ⟨fun z => absurd z (by decide), fun z => by simp at z⟩
-- b_131i82_11: copy
theorem k_25_122 {d nS : Nat} {M : am_M} {Q : Option Value → am_H → Prop} : am_Wp (d + 1) 131 0 [.ref 25, .ref 122] [] (hp nS M) Q = Q none (hp nS (am_row M 122 (va_cpy (M 25) (M 122) 0 0 8))) := by
  rw [b_131i82_0, c_296, am_ans_some, show (if (8 : Int32) < 8 then (8 : Int32) else 8) = 8 from rfl]
  refine (eq_copy2 (e := (.invokestatic 362, 3, 6, 0, 66)) (na := 8) (nb := 8) (by with_unfolding_all rfl) rfl rfl (by with_unfolding_all rfl) (by with_unfolding_all rfl) (by decide) (by decide) (by decide) ⟨by decide, by decide, by decide⟩).trans ?_
  exact eq_retV2 (e := (.return_, 1, 0, 0, 0)) (by with_unfolding_all rfl) rfl (by with_unfolding_all rfl)
set_option maxRecDepth 20000 in
theorem b_131i83_0 {d nS : Nat} {M : am_M} {Q : Option Value → am_H → Prop} : am_Wp (d + 1) 131 0 [.ref 26, .ref 123] [] (hp nS M) Q = am_Wp d 296 0 [.int 8, .int 8] [] (hp nS M) (fun v h1 => am_Wp (d + 1) 131 11 [.ref 26, .ref 123] (am_ans v [.int 0, .ref 123, .int 0, .ref 26]) h1 Q) := by
  refine (eq_run 8 (q := (8, [.ref 26, .ref 123], [.int 8, .int 8, .int 0, .ref 123, .int 0, .ref 26], hp nS M)) (by with_unfolding_all rfl)).trans ?_
  exact eq_call2 (e := (.invokestatic 359, 3, 1, 296, 65)) (as := [.int 8, .int 8]) (r := [.int 0, .ref 123, .int 0, .ref 26]) (n := 2) (m := 2) (by with_unfolding_all rfl) rfl (by decide) (by with_unfolding_all rfl) (by decide) (by with_unfolding_all rfl) ⟨fun z => absurd z (by decide), fun z => by simp at z⟩
-- b_131i83_11: copy
theorem k_26_123 {d nS : Nat} {M : am_M} {Q : Option Value → am_H → Prop} : am_Wp (d + 1) 131 0 [.ref 26, .ref 123] [] (hp nS M) Q = Q none (hp nS (am_row M 123 (va_cpy (M 26) (M 123) 0 0 8))) := by
  rw [b_131i83_0, c_296, am_ans_some, show (if (8 : Int32) < 8 then (8 : Int32) else 8) = 8 from rfl]
  refine (eq_copy2 (e := (.invokestatic 362, 3, 6, 0, 66)) (na := 8) (nb := 8) (by with_unfolding_all rfl) rfl rfl (by with_unfolding_all rfl) (by with_unfolding_all rfl) (by decide) (by decide) (by decide) ⟨by decide, by decide, by decide⟩).trans ?_
  exact eq_retV2 (e := (.return_, 1, 0, 0, 0)) (by with_unfolding_all rfl) rfl (by with_unfolding_all rfl)
set_option maxRecDepth 20000 in
theorem b_131i84_0 {d nS : Nat} {M : am_M} {Q : Option Value → am_H → Prop} : am_Wp (d + 1) 131 0 [.ref 27, .ref 124] [] (hp nS M) Q = am_Wp d 296 0 [.int 10, .int 10] [] (hp nS M) (fun v h1 => am_Wp (d + 1) 131 11 [.ref 27, .ref 124] (am_ans v [.int 0, .ref 124, .int 0, .ref 27]) h1 Q) := by
  refine (eq_run 8 (q := (8, [.ref 27, .ref 124], [.int 10, .int 10, .int 0, .ref 124, .int 0, .ref 27], hp nS M)) (by with_unfolding_all rfl)).trans ?_
  exact eq_call2 (e := (.invokestatic 359, 3, 1, 296, 65)) (as := [.int 10, .int 10]) (r := [.int 0, .ref 124, .int 0, .ref 27]) (n := 2) (m := 2) (by with_unfolding_all rfl) rfl (by decide) (by with_unfolding_all rfl) (by decide) (by with_unfolding_all rfl) ⟨fun z => absurd z (by decide), fun z => by simp at z⟩
-- b_131i84_11: copy
theorem k_27_124 {d nS : Nat} {M : am_M} {Q : Option Value → am_H → Prop} : am_Wp (d + 1) 131 0 [.ref 27, .ref 124] [] (hp nS M) Q = Q none (hp nS (am_row M 124 (va_cpy (M 27) (M 124) 0 0 10))) := by
  rw [b_131i84_0, c_296, am_ans_some, show (if (10 : Int32) < 10 then (10 : Int32) else 10) = 10 from rfl]
  refine (eq_copy2 (e := (.invokestatic 362, 3, 6, 0, 66)) (na := 10) (nb := 10) (by with_unfolding_all rfl) rfl rfl (by with_unfolding_all rfl) (by with_unfolding_all rfl) (by decide) (by decide) (by decide) ⟨by decide, by decide, by decide⟩).trans ?_
  exact eq_retV2 (e := (.return_, 1, 0, 0, 0)) (by with_unfolding_all rfl) rfl (by with_unfolding_all rfl)
set_option maxRecDepth 20000 in
theorem b_131i85_0 {d nS : Nat} {M : am_M} {Q : Option Value → am_H → Prop} : am_Wp (d + 1) 131 0 [.ref 28, .ref 125] [] (hp nS M) Q = am_Wp d 296 0 [.int 10, .int 10] [] (hp nS M) (fun v h1 => am_Wp (d + 1) 131 11 [.ref 28, .ref 125] (am_ans v [.int 0, .ref 125, .int 0, .ref 28]) h1 Q) := by
  refine (eq_run 8 (q := (8, [.ref 28, .ref 125], [.int 10, .int 10, .int 0, .ref 125, .int 0, .ref 28], hp nS M)) (by with_unfolding_all rfl)).trans ?_
  exact eq_call2 (e := (.invokestatic 359, 3, 1, 296, 65)) (as := [.int 10, .int 10]) (r := [.int 0, .ref 125, .int 0, .ref 28]) (n := 2) (m := 2) (by with_unfolding_all rfl) rfl (by decide) (by with_unfolding_all rfl) (by decide) (by with_unfolding_all rfl) ⟨fun z => absurd z (by decide), fun z => by simp at z⟩
-- b_131i85_11: copy
theorem k_28_125 {d nS : Nat} {M : am_M} {Q : Option Value → am_H → Prop} : am_Wp (d + 1) 131 0 [.ref 28, .ref 125] [] (hp nS M) Q = Q none (hp nS (am_row M 125 (va_cpy (M 28) (M 125) 0 0 10))) := by
  rw [b_131i85_0, c_296, am_ans_some, show (if (10 : Int32) < 10 then (10 : Int32) else 10) = 10 from rfl]
  refine (eq_copy2 (e := (.invokestatic 362, 3, 6, 0, 66)) (na := 10) (nb := 10) (by with_unfolding_all rfl) rfl rfl (by with_unfolding_all rfl) (by with_unfolding_all rfl) (by decide) (by decide) (by decide) ⟨by decide, by decide, by decide⟩).trans ?_
  exact eq_retV2 (e := (.return_, 1, 0, 0, 0)) (by with_unfolding_all rfl) rfl (by with_unfolding_all rfl)
set_option maxRecDepth 20000 in
theorem b_131i86_0 {d nS : Nat} {M : am_M} {Q : Option Value → am_H → Prop} : am_Wp (d + 1) 131 0 [.ref 29, .ref 126] [] (hp nS M) Q = am_Wp d 296 0 [.int 80, .int 80] [] (hp nS M) (fun v h1 => am_Wp (d + 1) 131 11 [.ref 29, .ref 126] (am_ans v [.int 0, .ref 126, .int 0, .ref 29]) h1 Q) := by
  refine (eq_run 8 (q := (8, [.ref 29, .ref 126], [.int 80, .int 80, .int 0, .ref 126, .int 0, .ref 29], hp nS M)) (by with_unfolding_all rfl)).trans ?_
  exact eq_call2 (e := (.invokestatic 359, 3, 1, 296, 65)) (as := [.int 80, .int 80]) (r := [.int 0, .ref 126, .int 0, .ref 29]) (n := 2) (m := 2) (by with_unfolding_all rfl) rfl (by decide) (by with_unfolding_all rfl) (by decide) (by with_unfolding_all rfl) ⟨fun z => absurd z (by decide), fun z => by simp at z⟩
-- b_131i86_11: copy
theorem k_29_126 {d nS : Nat} {M : am_M} {Q : Option Value → am_H → Prop} : am_Wp (d + 1) 131 0 [.ref 29, .ref 126] [] (hp nS M) Q = Q none (hp nS (am_row M 126 (va_cpy (M 29) (M 126) 0 0 80))) := by
  rw [b_131i86_0, c_296, am_ans_some, show (if (80 : Int32) < 80 then (80 : Int32) else 80) = 80 from rfl]
  refine (eq_copy2 (e := (.invokestatic 362, 3, 6, 0, 66)) (na := 80) (nb := 80) (by with_unfolding_all rfl) rfl rfl (by with_unfolding_all rfl) (by with_unfolding_all rfl) (by decide) (by decide) (by decide) ⟨by decide, by decide, by decide⟩).trans ?_
  exact eq_retV2 (e := (.return_, 1, 0, 0, 0)) (by with_unfolding_all rfl) rfl (by with_unfolding_all rfl)
set_option maxRecDepth 20000 in
theorem b_131i87_0 {d nS : Nat} {M : am_M} {Q : Option Value → am_H → Prop} : am_Wp (d + 1) 131 0 [.ref 176, .ref 19] [] (hp nS M) Q = am_Wp d 296 0 [.int 6, .int 6] [] (hp nS M) (fun v h1 => am_Wp (d + 1) 131 11 [.ref 176, .ref 19] (am_ans v [.int 0, .ref 19, .int 0, .ref 176]) h1 Q) := by
  refine (eq_run 8 (q := (8, [.ref 176, .ref 19], [.int 6, .int 6, .int 0, .ref 19, .int 0, .ref 176], hp nS M)) (by with_unfolding_all rfl)).trans ?_
  exact eq_call2 (e := (.invokestatic 359, 3, 1, 296, 65)) (as := [.int 6, .int 6]) (r := [.int 0, .ref 19, .int 0, .ref 176]) (n := 2) (m := 2) (by with_unfolding_all rfl) rfl (by decide) (by with_unfolding_all rfl) (by decide) (by with_unfolding_all rfl) ⟨fun z => absurd z (by decide), fun z => by simp at z⟩
-- b_131i87_11: copy
theorem k_176_19 {d nS : Nat} {M : am_M} {Q : Option Value → am_H → Prop} : am_Wp (d + 1) 131 0 [.ref 176, .ref 19] [] (hp nS M) Q = Q none (hp nS (am_row M 19 (va_cpy (M 176) (M 19) 0 0 6))) := by
  rw [b_131i87_0, c_296, am_ans_some, show (if (6 : Int32) < 6 then (6 : Int32) else 6) = 6 from rfl]
  refine (eq_copy2 (e := (.invokestatic 362, 3, 6, 0, 66)) (na := 6) (nb := 6) (by with_unfolding_all rfl) rfl rfl (by with_unfolding_all rfl) (by with_unfolding_all rfl) (by decide) (by decide) (by decide) ⟨by decide, by decide, by decide⟩).trans ?_
  exact eq_retV2 (e := (.return_, 1, 0, 0, 0)) (by with_unfolding_all rfl) rfl (by with_unfolding_all rfl)
set_option maxRecDepth 20000 in
theorem b_131i88_0 {d nS : Nat} {M : am_M} {Q : Option Value → am_H → Prop} : am_Wp (d + 1) 131 0 [.ref 177, .ref 20] [] (hp nS M) Q = am_Wp d 296 0 [.int 6, .int 6] [] (hp nS M) (fun v h1 => am_Wp (d + 1) 131 11 [.ref 177, .ref 20] (am_ans v [.int 0, .ref 20, .int 0, .ref 177]) h1 Q) := by
  refine (eq_run 8 (q := (8, [.ref 177, .ref 20], [.int 6, .int 6, .int 0, .ref 20, .int 0, .ref 177], hp nS M)) (by with_unfolding_all rfl)).trans ?_
  exact eq_call2 (e := (.invokestatic 359, 3, 1, 296, 65)) (as := [.int 6, .int 6]) (r := [.int 0, .ref 20, .int 0, .ref 177]) (n := 2) (m := 2) (by with_unfolding_all rfl) rfl (by decide) (by with_unfolding_all rfl) (by decide) (by with_unfolding_all rfl) ⟨fun z => absurd z (by decide), fun z => by simp at z⟩
-- b_131i88_11: copy
theorem k_177_20 {d nS : Nat} {M : am_M} {Q : Option Value → am_H → Prop} : am_Wp (d + 1) 131 0 [.ref 177, .ref 20] [] (hp nS M) Q = Q none (hp nS (am_row M 20 (va_cpy (M 177) (M 20) 0 0 6))) := by
  rw [b_131i88_0, c_296, am_ans_some, show (if (6 : Int32) < 6 then (6 : Int32) else 6) = 6 from rfl]
  refine (eq_copy2 (e := (.invokestatic 362, 3, 6, 0, 66)) (na := 6) (nb := 6) (by with_unfolding_all rfl) rfl rfl (by with_unfolding_all rfl) (by with_unfolding_all rfl) (by decide) (by decide) (by decide) ⟨by decide, by decide, by decide⟩).trans ?_
  exact eq_retV2 (e := (.return_, 1, 0, 0, 0)) (by with_unfolding_all rfl) rfl (by with_unfolding_all rfl)
set_option maxRecDepth 20000 in
theorem b_131i89_0 {d nS : Nat} {M : am_M} {Q : Option Value → am_H → Prop} : am_Wp (d + 1) 131 0 [.ref 178, .ref 21] [] (hp nS M) Q = am_Wp d 296 0 [.int 6, .int 6] [] (hp nS M) (fun v h1 => am_Wp (d + 1) 131 11 [.ref 178, .ref 21] (am_ans v [.int 0, .ref 21, .int 0, .ref 178]) h1 Q) := by
  refine (eq_run 8 (q := (8, [.ref 178, .ref 21], [.int 6, .int 6, .int 0, .ref 21, .int 0, .ref 178], hp nS M)) (by with_unfolding_all rfl)).trans ?_
  exact eq_call2 (e := (.invokestatic 359, 3, 1, 296, 65)) (as := [.int 6, .int 6]) (r := [.int 0, .ref 21, .int 0, .ref 178]) (n := 2) (m := 2) (by with_unfolding_all rfl) rfl (by decide) (by with_unfolding_all rfl) (by decide) (by with_unfolding_all rfl) ⟨fun z => absurd z (by decide), fun z => by simp at z⟩
-- b_131i89_11: copy
theorem k_178_21 {d nS : Nat} {M : am_M} {Q : Option Value → am_H → Prop} : am_Wp (d + 1) 131 0 [.ref 178, .ref 21] [] (hp nS M) Q = Q none (hp nS (am_row M 21 (va_cpy (M 178) (M 21) 0 0 6))) := by
  rw [b_131i89_0, c_296, am_ans_some, show (if (6 : Int32) < 6 then (6 : Int32) else 6) = 6 from rfl]
  refine (eq_copy2 (e := (.invokestatic 362, 3, 6, 0, 66)) (na := 6) (nb := 6) (by with_unfolding_all rfl) rfl rfl (by with_unfolding_all rfl) (by with_unfolding_all rfl) (by decide) (by decide) (by decide) ⟨by decide, by decide, by decide⟩).trans ?_
  exact eq_retV2 (e := (.return_, 1, 0, 0, 0)) (by with_unfolding_all rfl) rfl (by with_unfolding_all rfl)
set_option maxRecDepth 20000 in
theorem b_131i90_0 {d nS : Nat} {M : am_M} {Q : Option Value → am_H → Prop} : am_Wp (d + 1) 131 0 [.ref 179, .ref 22] [] (hp nS M) Q = am_Wp d 296 0 [.int 6, .int 6] [] (hp nS M) (fun v h1 => am_Wp (d + 1) 131 11 [.ref 179, .ref 22] (am_ans v [.int 0, .ref 22, .int 0, .ref 179]) h1 Q) := by
  refine (eq_run 8 (q := (8, [.ref 179, .ref 22], [.int 6, .int 6, .int 0, .ref 22, .int 0, .ref 179], hp nS M)) (by with_unfolding_all rfl)).trans ?_
  exact eq_call2 (e := (.invokestatic 359, 3, 1, 296, 65)) (as := [.int 6, .int 6]) (r := [.int 0, .ref 22, .int 0, .ref 179]) (n := 2) (m := 2) (by with_unfolding_all rfl) rfl (by decide) (by with_unfolding_all rfl) (by decide) (by with_unfolding_all rfl) ⟨fun z => absurd z (by decide), fun z => by simp at z⟩
-- b_131i90_11: copy
theorem k_179_22 {d nS : Nat} {M : am_M} {Q : Option Value → am_H → Prop} : am_Wp (d + 1) 131 0 [.ref 179, .ref 22] [] (hp nS M) Q = Q none (hp nS (am_row M 22 (va_cpy (M 179) (M 22) 0 0 6))) := by
  rw [b_131i90_0, c_296, am_ans_some, show (if (6 : Int32) < 6 then (6 : Int32) else 6) = 6 from rfl]
  refine (eq_copy2 (e := (.invokestatic 362, 3, 6, 0, 66)) (na := 6) (nb := 6) (by with_unfolding_all rfl) rfl rfl (by with_unfolding_all rfl) (by with_unfolding_all rfl) (by decide) (by decide) (by decide) ⟨by decide, by decide, by decide⟩).trans ?_
  exact eq_retV2 (e := (.return_, 1, 0, 0, 0)) (by with_unfolding_all rfl) rfl (by with_unfolding_all rfl)
set_option maxRecDepth 20000 in
theorem b_131i91_0 {d nS : Nat} {M : am_M} {Q : Option Value → am_H → Prop} : am_Wp (d + 1) 131 0 [.ref 180, .ref 23] [] (hp nS M) Q = am_Wp d 296 0 [.int 6, .int 6] [] (hp nS M) (fun v h1 => am_Wp (d + 1) 131 11 [.ref 180, .ref 23] (am_ans v [.int 0, .ref 23, .int 0, .ref 180]) h1 Q) := by
  refine (eq_run 8 (q := (8, [.ref 180, .ref 23], [.int 6, .int 6, .int 0, .ref 23, .int 0, .ref 180], hp nS M)) (by with_unfolding_all rfl)).trans ?_
  exact eq_call2 (e := (.invokestatic 359, 3, 1, 296, 65)) (as := [.int 6, .int 6]) (r := [.int 0, .ref 23, .int 0, .ref 180]) (n := 2) (m := 2) (by with_unfolding_all rfl) rfl (by decide) (by with_unfolding_all rfl) (by decide) (by with_unfolding_all rfl) ⟨fun z => absurd z (by decide), fun z => by simp at z⟩
-- b_131i91_11: copy
theorem k_180_23 {d nS : Nat} {M : am_M} {Q : Option Value → am_H → Prop} : am_Wp (d + 1) 131 0 [.ref 180, .ref 23] [] (hp nS M) Q = Q none (hp nS (am_row M 23 (va_cpy (M 180) (M 23) 0 0 6))) := by
  rw [b_131i91_0, c_296, am_ans_some, show (if (6 : Int32) < 6 then (6 : Int32) else 6) = 6 from rfl]
  refine (eq_copy2 (e := (.invokestatic 362, 3, 6, 0, 66)) (na := 6) (nb := 6) (by with_unfolding_all rfl) rfl rfl (by with_unfolding_all rfl) (by with_unfolding_all rfl) (by decide) (by decide) (by decide) ⟨by decide, by decide, by decide⟩).trans ?_
  exact eq_retV2 (e := (.return_, 1, 0, 0, 0)) (by with_unfolding_all rfl) rfl (by with_unfolding_all rfl)
set_option maxRecDepth 20000 in
theorem b_131i92_0 {d nS : Nat} {M : am_M} {Q : Option Value → am_H → Prop} : am_Wp (d + 1) 131 0 [.ref 181, .ref 24] [] (hp nS M) Q = am_Wp d 296 0 [.int 8, .int 8] [] (hp nS M) (fun v h1 => am_Wp (d + 1) 131 11 [.ref 181, .ref 24] (am_ans v [.int 0, .ref 24, .int 0, .ref 181]) h1 Q) := by
  refine (eq_run 8 (q := (8, [.ref 181, .ref 24], [.int 8, .int 8, .int 0, .ref 24, .int 0, .ref 181], hp nS M)) (by with_unfolding_all rfl)).trans ?_
  exact eq_call2 (e := (.invokestatic 359, 3, 1, 296, 65)) (as := [.int 8, .int 8]) (r := [.int 0, .ref 24, .int 0, .ref 181]) (n := 2) (m := 2) (by with_unfolding_all rfl) rfl (by decide) (by with_unfolding_all rfl) (by decide) (by with_unfolding_all rfl) ⟨fun z => absurd z (by decide), fun z => by simp at z⟩
-- b_131i92_11: copy
theorem k_181_24 {d nS : Nat} {M : am_M} {Q : Option Value → am_H → Prop} : am_Wp (d + 1) 131 0 [.ref 181, .ref 24] [] (hp nS M) Q = Q none (hp nS (am_row M 24 (va_cpy (M 181) (M 24) 0 0 8))) := by
  rw [b_131i92_0, c_296, am_ans_some, show (if (8 : Int32) < 8 then (8 : Int32) else 8) = 8 from rfl]
  refine (eq_copy2 (e := (.invokestatic 362, 3, 6, 0, 66)) (na := 8) (nb := 8) (by with_unfolding_all rfl) rfl rfl (by with_unfolding_all rfl) (by with_unfolding_all rfl) (by decide) (by decide) (by decide) ⟨by decide, by decide, by decide⟩).trans ?_
  exact eq_retV2 (e := (.return_, 1, 0, 0, 0)) (by with_unfolding_all rfl) rfl (by with_unfolding_all rfl)
set_option maxRecDepth 20000 in
theorem b_131i93_0 {d nS : Nat} {M : am_M} {Q : Option Value → am_H → Prop} : am_Wp (d + 1) 131 0 [.ref 182, .ref 25] [] (hp nS M) Q = am_Wp d 296 0 [.int 8, .int 8] [] (hp nS M) (fun v h1 => am_Wp (d + 1) 131 11 [.ref 182, .ref 25] (am_ans v [.int 0, .ref 25, .int 0, .ref 182]) h1 Q) := by
  refine (eq_run 8 (q := (8, [.ref 182, .ref 25], [.int 8, .int 8, .int 0, .ref 25, .int 0, .ref 182], hp nS M)) (by with_unfolding_all rfl)).trans ?_
  exact eq_call2 (e := (.invokestatic 359, 3, 1, 296, 65)) (as := [.int 8, .int 8]) (r := [.int 0, .ref 25, .int 0, .ref 182]) (n := 2) (m := 2) (by with_unfolding_all rfl) rfl (by decide) (by with_unfolding_all rfl) (by decide) (by with_unfolding_all rfl) ⟨fun z => absurd z (by decide), fun z => by simp at z⟩
-- b_131i93_11: copy
theorem k_182_25 {d nS : Nat} {M : am_M} {Q : Option Value → am_H → Prop} : am_Wp (d + 1) 131 0 [.ref 182, .ref 25] [] (hp nS M) Q = Q none (hp nS (am_row M 25 (va_cpy (M 182) (M 25) 0 0 8))) := by
  rw [b_131i93_0, c_296, am_ans_some, show (if (8 : Int32) < 8 then (8 : Int32) else 8) = 8 from rfl]
  refine (eq_copy2 (e := (.invokestatic 362, 3, 6, 0, 66)) (na := 8) (nb := 8) (by with_unfolding_all rfl) rfl rfl (by with_unfolding_all rfl) (by with_unfolding_all rfl) (by decide) (by decide) (by decide) ⟨by decide, by decide, by decide⟩).trans ?_
  exact eq_retV2 (e := (.return_, 1, 0, 0, 0)) (by with_unfolding_all rfl) rfl (by with_unfolding_all rfl)
set_option maxRecDepth 20000 in
theorem b_131i94_0 {d nS : Nat} {M : am_M} {Q : Option Value → am_H → Prop} : am_Wp (d + 1) 131 0 [.ref 183, .ref 26] [] (hp nS M) Q = am_Wp d 296 0 [.int 8, .int 8] [] (hp nS M) (fun v h1 => am_Wp (d + 1) 131 11 [.ref 183, .ref 26] (am_ans v [.int 0, .ref 26, .int 0, .ref 183]) h1 Q) := by
  refine (eq_run 8 (q := (8, [.ref 183, .ref 26], [.int 8, .int 8, .int 0, .ref 26, .int 0, .ref 183], hp nS M)) (by with_unfolding_all rfl)).trans ?_
  exact eq_call2 (e := (.invokestatic 359, 3, 1, 296, 65)) (as := [.int 8, .int 8]) (r := [.int 0, .ref 26, .int 0, .ref 183]) (n := 2) (m := 2) (by with_unfolding_all rfl) rfl (by decide) (by with_unfolding_all rfl) (by decide) (by with_unfolding_all rfl) ⟨fun z => absurd z (by decide), fun z => by simp at z⟩
-- b_131i94_11: copy
theorem k_183_26 {d nS : Nat} {M : am_M} {Q : Option Value → am_H → Prop} : am_Wp (d + 1) 131 0 [.ref 183, .ref 26] [] (hp nS M) Q = Q none (hp nS (am_row M 26 (va_cpy (M 183) (M 26) 0 0 8))) := by
  rw [b_131i94_0, c_296, am_ans_some, show (if (8 : Int32) < 8 then (8 : Int32) else 8) = 8 from rfl]
  refine (eq_copy2 (e := (.invokestatic 362, 3, 6, 0, 66)) (na := 8) (nb := 8) (by with_unfolding_all rfl) rfl rfl (by with_unfolding_all rfl) (by with_unfolding_all rfl) (by decide) (by decide) (by decide) ⟨by decide, by decide, by decide⟩).trans ?_
  exact eq_retV2 (e := (.return_, 1, 0, 0, 0)) (by with_unfolding_all rfl) rfl (by with_unfolding_all rfl)
set_option maxRecDepth 20000 in
theorem b_131i95_0 {d nS : Nat} {M : am_M} {Q : Option Value → am_H → Prop} : am_Wp (d + 1) 131 0 [.ref 184, .ref 27] [] (hp nS M) Q = am_Wp d 296 0 [.int 10, .int 10] [] (hp nS M) (fun v h1 => am_Wp (d + 1) 131 11 [.ref 184, .ref 27] (am_ans v [.int 0, .ref 27, .int 0, .ref 184]) h1 Q) := by
  refine (eq_run 8 (q := (8, [.ref 184, .ref 27], [.int 10, .int 10, .int 0, .ref 27, .int 0, .ref 184], hp nS M)) (by with_unfolding_all rfl)).trans ?_
  exact eq_call2 (e := (.invokestatic 359, 3, 1, 296, 65)) (as := [.int 10, .int 10]) (r := [.int 0, .ref 27, .int 0, .ref 184]) (n := 2) (m := 2) (by with_unfolding_all rfl) rfl (by decide) (by with_unfolding_all rfl) (by decide) (by with_unfolding_all rfl) ⟨fun z => absurd z (by decide), fun z => by simp at z⟩
-- b_131i95_11: copy
theorem k_184_27 {d nS : Nat} {M : am_M} {Q : Option Value → am_H → Prop} : am_Wp (d + 1) 131 0 [.ref 184, .ref 27] [] (hp nS M) Q = Q none (hp nS (am_row M 27 (va_cpy (M 184) (M 27) 0 0 10))) := by
  rw [b_131i95_0, c_296, am_ans_some, show (if (10 : Int32) < 10 then (10 : Int32) else 10) = 10 from rfl]
  refine (eq_copy2 (e := (.invokestatic 362, 3, 6, 0, 66)) (na := 10) (nb := 10) (by with_unfolding_all rfl) rfl rfl (by with_unfolding_all rfl) (by with_unfolding_all rfl) (by decide) (by decide) (by decide) ⟨by decide, by decide, by decide⟩).trans ?_
  exact eq_retV2 (e := (.return_, 1, 0, 0, 0)) (by with_unfolding_all rfl) rfl (by with_unfolding_all rfl)
set_option maxRecDepth 20000 in
theorem b_131i96_0 {d nS : Nat} {M : am_M} {Q : Option Value → am_H → Prop} : am_Wp (d + 1) 131 0 [.ref 185, .ref 28] [] (hp nS M) Q = am_Wp d 296 0 [.int 10, .int 10] [] (hp nS M) (fun v h1 => am_Wp (d + 1) 131 11 [.ref 185, .ref 28] (am_ans v [.int 0, .ref 28, .int 0, .ref 185]) h1 Q) := by
  refine (eq_run 8 (q := (8, [.ref 185, .ref 28], [.int 10, .int 10, .int 0, .ref 28, .int 0, .ref 185], hp nS M)) (by with_unfolding_all rfl)).trans ?_
  exact eq_call2 (e := (.invokestatic 359, 3, 1, 296, 65)) (as := [.int 10, .int 10]) (r := [.int 0, .ref 28, .int 0, .ref 185]) (n := 2) (m := 2) (by with_unfolding_all rfl) rfl (by decide) (by with_unfolding_all rfl) (by decide) (by with_unfolding_all rfl) ⟨fun z => absurd z (by decide), fun z => by simp at z⟩
-- b_131i96_11: copy
theorem k_185_28 {d nS : Nat} {M : am_M} {Q : Option Value → am_H → Prop} : am_Wp (d + 1) 131 0 [.ref 185, .ref 28] [] (hp nS M) Q = Q none (hp nS (am_row M 28 (va_cpy (M 185) (M 28) 0 0 10))) := by
  rw [b_131i96_0, c_296, am_ans_some, show (if (10 : Int32) < 10 then (10 : Int32) else 10) = 10 from rfl]
  refine (eq_copy2 (e := (.invokestatic 362, 3, 6, 0, 66)) (na := 10) (nb := 10) (by with_unfolding_all rfl) rfl rfl (by with_unfolding_all rfl) (by with_unfolding_all rfl) (by decide) (by decide) (by decide) ⟨by decide, by decide, by decide⟩).trans ?_
  exact eq_retV2 (e := (.return_, 1, 0, 0, 0)) (by with_unfolding_all rfl) rfl (by with_unfolding_all rfl)
set_option maxRecDepth 20000 in
theorem b_131i97_0 {d nS : Nat} {M : am_M} {Q : Option Value → am_H → Prop} : am_Wp (d + 1) 131 0 [.ref 186, .ref 29] [] (hp nS M) Q = am_Wp d 296 0 [.int 80, .int 80] [] (hp nS M) (fun v h1 => am_Wp (d + 1) 131 11 [.ref 186, .ref 29] (am_ans v [.int 0, .ref 29, .int 0, .ref 186]) h1 Q) := by
  refine (eq_run 8 (q := (8, [.ref 186, .ref 29], [.int 80, .int 80, .int 0, .ref 29, .int 0, .ref 186], hp nS M)) (by with_unfolding_all rfl)).trans ?_
  exact eq_call2 (e := (.invokestatic 359, 3, 1, 296, 65)) (as := [.int 80, .int 80]) (r := [.int 0, .ref 29, .int 0, .ref 186]) (n := 2) (m := 2) (by with_unfolding_all rfl) rfl (by decide) (by with_unfolding_all rfl) (by decide) (by with_unfolding_all rfl) ⟨fun z => absurd z (by decide), fun z => by simp at z⟩
-- b_131i97_11: copy
theorem k_186_29 {d nS : Nat} {M : am_M} {Q : Option Value → am_H → Prop} : am_Wp (d + 1) 131 0 [.ref 186, .ref 29] [] (hp nS M) Q = Q none (hp nS (am_row M 29 (va_cpy (M 186) (M 29) 0 0 80))) := by
  rw [b_131i97_0, c_296, am_ans_some, show (if (80 : Int32) < 80 then (80 : Int32) else 80) = 80 from rfl]
  refine (eq_copy2 (e := (.invokestatic 362, 3, 6, 0, 66)) (na := 80) (nb := 80) (by with_unfolding_all rfl) rfl rfl (by with_unfolding_all rfl) (by with_unfolding_all rfl) (by decide) (by decide) (by decide) ⟨by decide, by decide, by decide⟩).trans ?_
  exact eq_retV2 (e := (.return_, 1, 0, 0, 0)) (by with_unfolding_all rfl) rfl (by with_unfolding_all rfl)
set_option maxRecDepth 20000 in
theorem b_131i98_0 {d nS : Nat} {M : am_M} {Q : Option Value → am_H → Prop} : am_Wp (d + 1) 131 0 [.ref 164, .ref 19] [] (hp nS M) Q = am_Wp d 296 0 [.int 6, .int 6] [] (hp nS M) (fun v h1 => am_Wp (d + 1) 131 11 [.ref 164, .ref 19] (am_ans v [.int 0, .ref 19, .int 0, .ref 164]) h1 Q) := by
  refine (eq_run 8 (q := (8, [.ref 164, .ref 19], [.int 6, .int 6, .int 0, .ref 19, .int 0, .ref 164], hp nS M)) (by with_unfolding_all rfl)).trans ?_
  exact eq_call2 (e := (.invokestatic 359, 3, 1, 296, 65)) (as := [.int 6, .int 6]) (r := [.int 0, .ref 19, .int 0, .ref 164]) (n := 2) (m := 2) (by with_unfolding_all rfl) rfl (by decide) (by with_unfolding_all rfl) (by decide) (by with_unfolding_all rfl) ⟨fun z => absurd z (by decide), fun z => by simp at z⟩
-- b_131i98_11: copy
theorem k_164_19 {d nS : Nat} {M : am_M} {Q : Option Value → am_H → Prop} : am_Wp (d + 1) 131 0 [.ref 164, .ref 19] [] (hp nS M) Q = Q none (hp nS (am_row M 19 (va_cpy (M 164) (M 19) 0 0 6))) := by
  rw [b_131i98_0, c_296, am_ans_some, show (if (6 : Int32) < 6 then (6 : Int32) else 6) = 6 from rfl]
  refine (eq_copy2 (e := (.invokestatic 362, 3, 6, 0, 66)) (na := 6) (nb := 6) (by with_unfolding_all rfl) rfl rfl (by with_unfolding_all rfl) (by with_unfolding_all rfl) (by decide) (by decide) (by decide) ⟨by decide, by decide, by decide⟩).trans ?_
  exact eq_retV2 (e := (.return_, 1, 0, 0, 0)) (by with_unfolding_all rfl) rfl (by with_unfolding_all rfl)
set_option maxRecDepth 20000 in
theorem b_131i99_0 {d nS : Nat} {M : am_M} {Q : Option Value → am_H → Prop} : am_Wp (d + 1) 131 0 [.ref 165, .ref 20] [] (hp nS M) Q = am_Wp d 296 0 [.int 6, .int 6] [] (hp nS M) (fun v h1 => am_Wp (d + 1) 131 11 [.ref 165, .ref 20] (am_ans v [.int 0, .ref 20, .int 0, .ref 165]) h1 Q) := by
  refine (eq_run 8 (q := (8, [.ref 165, .ref 20], [.int 6, .int 6, .int 0, .ref 20, .int 0, .ref 165], hp nS M)) (by with_unfolding_all rfl)).trans ?_
  exact eq_call2 (e := (.invokestatic 359, 3, 1, 296, 65)) (as := [.int 6, .int 6]) (r := [.int 0, .ref 20, .int 0, .ref 165]) (n := 2) (m := 2) (by with_unfolding_all rfl) rfl (by decide) (by with_unfolding_all rfl) (by decide) (by with_unfolding_all rfl) ⟨fun z => absurd z (by decide), fun z => by simp at z⟩
-- b_131i99_11: copy
theorem k_165_20 {d nS : Nat} {M : am_M} {Q : Option Value → am_H → Prop} : am_Wp (d + 1) 131 0 [.ref 165, .ref 20] [] (hp nS M) Q = Q none (hp nS (am_row M 20 (va_cpy (M 165) (M 20) 0 0 6))) := by
  rw [b_131i99_0, c_296, am_ans_some, show (if (6 : Int32) < 6 then (6 : Int32) else 6) = 6 from rfl]
  refine (eq_copy2 (e := (.invokestatic 362, 3, 6, 0, 66)) (na := 6) (nb := 6) (by with_unfolding_all rfl) rfl rfl (by with_unfolding_all rfl) (by with_unfolding_all rfl) (by decide) (by decide) (by decide) ⟨by decide, by decide, by decide⟩).trans ?_
  exact eq_retV2 (e := (.return_, 1, 0, 0, 0)) (by with_unfolding_all rfl) rfl (by with_unfolding_all rfl)
set_option maxRecDepth 20000 in
theorem b_131i100_0 {d nS : Nat} {M : am_M} {Q : Option Value → am_H → Prop} : am_Wp (d + 1) 131 0 [.ref 166, .ref 21] [] (hp nS M) Q = am_Wp d 296 0 [.int 6, .int 6] [] (hp nS M) (fun v h1 => am_Wp (d + 1) 131 11 [.ref 166, .ref 21] (am_ans v [.int 0, .ref 21, .int 0, .ref 166]) h1 Q) := by
  refine (eq_run 8 (q := (8, [.ref 166, .ref 21], [.int 6, .int 6, .int 0, .ref 21, .int 0, .ref 166], hp nS M)) (by with_unfolding_all rfl)).trans ?_
  exact eq_call2 (e := (.invokestatic 359, 3, 1, 296, 65)) (as := [.int 6, .int 6]) (r := [.int 0, .ref 21, .int 0, .ref 166]) (n := 2) (m := 2) (by with_unfolding_all rfl) rfl (by decide) (by with_unfolding_all rfl) (by decide) (by with_unfolding_all rfl) ⟨fun z => absurd z (by decide), fun z => by simp at z⟩
-- b_131i100_11: copy
theorem k_166_21 {d nS : Nat} {M : am_M} {Q : Option Value → am_H → Prop} : am_Wp (d + 1) 131 0 [.ref 166, .ref 21] [] (hp nS M) Q = Q none (hp nS (am_row M 21 (va_cpy (M 166) (M 21) 0 0 6))) := by
  rw [b_131i100_0, c_296, am_ans_some, show (if (6 : Int32) < 6 then (6 : Int32) else 6) = 6 from rfl]
  refine (eq_copy2 (e := (.invokestatic 362, 3, 6, 0, 66)) (na := 6) (nb := 6) (by with_unfolding_all rfl) rfl rfl (by with_unfolding_all rfl) (by with_unfolding_all rfl) (by decide) (by decide) (by decide) ⟨by decide, by decide, by decide⟩).trans ?_
  exact eq_retV2 (e := (.return_, 1, 0, 0, 0)) (by with_unfolding_all rfl) rfl (by with_unfolding_all rfl)
set_option maxRecDepth 20000 in
theorem b_131i101_0 {d nS : Nat} {M : am_M} {Q : Option Value → am_H → Prop} : am_Wp (d + 1) 131 0 [.ref 167, .ref 22] [] (hp nS M) Q = am_Wp d 296 0 [.int 6, .int 6] [] (hp nS M) (fun v h1 => am_Wp (d + 1) 131 11 [.ref 167, .ref 22] (am_ans v [.int 0, .ref 22, .int 0, .ref 167]) h1 Q) := by
  refine (eq_run 8 (q := (8, [.ref 167, .ref 22], [.int 6, .int 6, .int 0, .ref 22, .int 0, .ref 167], hp nS M)) (by with_unfolding_all rfl)).trans ?_
  exact eq_call2 (e := (.invokestatic 359, 3, 1, 296, 65)) (as := [.int 6, .int 6]) (r := [.int 0, .ref 22, .int 0, .ref 167]) (n := 2) (m := 2) (by with_unfolding_all rfl) rfl (by decide) (by with_unfolding_all rfl) (by decide) (by with_unfolding_all rfl) ⟨fun z => absurd z (by decide), fun z => by simp at z⟩
-- b_131i101_11: copy
theorem k_167_22 {d nS : Nat} {M : am_M} {Q : Option Value → am_H → Prop} : am_Wp (d + 1) 131 0 [.ref 167, .ref 22] [] (hp nS M) Q = Q none (hp nS (am_row M 22 (va_cpy (M 167) (M 22) 0 0 6))) := by
  rw [b_131i101_0, c_296, am_ans_some, show (if (6 : Int32) < 6 then (6 : Int32) else 6) = 6 from rfl]
  refine (eq_copy2 (e := (.invokestatic 362, 3, 6, 0, 66)) (na := 6) (nb := 6) (by with_unfolding_all rfl) rfl rfl (by with_unfolding_all rfl) (by with_unfolding_all rfl) (by decide) (by decide) (by decide) ⟨by decide, by decide, by decide⟩).trans ?_
  exact eq_retV2 (e := (.return_, 1, 0, 0, 0)) (by with_unfolding_all rfl) rfl (by with_unfolding_all rfl)
set_option maxRecDepth 20000 in
theorem b_131i102_0 {d nS : Nat} {M : am_M} {Q : Option Value → am_H → Prop} : am_Wp (d + 1) 131 0 [.ref 168, .ref 23] [] (hp nS M) Q = am_Wp d 296 0 [.int 6, .int 6] [] (hp nS M) (fun v h1 => am_Wp (d + 1) 131 11 [.ref 168, .ref 23] (am_ans v [.int 0, .ref 23, .int 0, .ref 168]) h1 Q) := by
  refine (eq_run 8 (q := (8, [.ref 168, .ref 23], [.int 6, .int 6, .int 0, .ref 23, .int 0, .ref 168], hp nS M)) (by with_unfolding_all rfl)).trans ?_
  exact eq_call2 (e := (.invokestatic 359, 3, 1, 296, 65)) (as := [.int 6, .int 6]) (r := [.int 0, .ref 23, .int 0, .ref 168]) (n := 2) (m := 2) (by with_unfolding_all rfl) rfl (by decide) (by with_unfolding_all rfl) (by decide) (by with_unfolding_all rfl) ⟨fun z => absurd z (by decide), fun z => by simp at z⟩
-- b_131i102_11: copy
theorem k_168_23 {d nS : Nat} {M : am_M} {Q : Option Value → am_H → Prop} : am_Wp (d + 1) 131 0 [.ref 168, .ref 23] [] (hp nS M) Q = Q none (hp nS (am_row M 23 (va_cpy (M 168) (M 23) 0 0 6))) := by
  rw [b_131i102_0, c_296, am_ans_some, show (if (6 : Int32) < 6 then (6 : Int32) else 6) = 6 from rfl]
  refine (eq_copy2 (e := (.invokestatic 362, 3, 6, 0, 66)) (na := 6) (nb := 6) (by with_unfolding_all rfl) rfl rfl (by with_unfolding_all rfl) (by with_unfolding_all rfl) (by decide) (by decide) (by decide) ⟨by decide, by decide, by decide⟩).trans ?_
  exact eq_retV2 (e := (.return_, 1, 0, 0, 0)) (by with_unfolding_all rfl) rfl (by with_unfolding_all rfl)
set_option maxRecDepth 20000 in
theorem b_131i103_0 {d nS : Nat} {M : am_M} {Q : Option Value → am_H → Prop} : am_Wp (d + 1) 131 0 [.ref 169, .ref 24] [] (hp nS M) Q = am_Wp d 296 0 [.int 8, .int 8] [] (hp nS M) (fun v h1 => am_Wp (d + 1) 131 11 [.ref 169, .ref 24] (am_ans v [.int 0, .ref 24, .int 0, .ref 169]) h1 Q) := by
  refine (eq_run 8 (q := (8, [.ref 169, .ref 24], [.int 8, .int 8, .int 0, .ref 24, .int 0, .ref 169], hp nS M)) (by with_unfolding_all rfl)).trans ?_
  exact eq_call2 (e := (.invokestatic 359, 3, 1, 296, 65)) (as := [.int 8, .int 8]) (r := [.int 0, .ref 24, .int 0, .ref 169]) (n := 2) (m := 2) (by with_unfolding_all rfl) rfl (by decide) (by with_unfolding_all rfl) (by decide) (by with_unfolding_all rfl) ⟨fun z => absurd z (by decide), fun z => by simp at z⟩
-- b_131i103_11: copy
theorem k_169_24 {d nS : Nat} {M : am_M} {Q : Option Value → am_H → Prop} : am_Wp (d + 1) 131 0 [.ref 169, .ref 24] [] (hp nS M) Q = Q none (hp nS (am_row M 24 (va_cpy (M 169) (M 24) 0 0 8))) := by
  rw [b_131i103_0, c_296, am_ans_some, show (if (8 : Int32) < 8 then (8 : Int32) else 8) = 8 from rfl]
  refine (eq_copy2 (e := (.invokestatic 362, 3, 6, 0, 66)) (na := 8) (nb := 8) (by with_unfolding_all rfl) rfl rfl (by with_unfolding_all rfl) (by with_unfolding_all rfl) (by decide) (by decide) (by decide) ⟨by decide, by decide, by decide⟩).trans ?_
  exact eq_retV2 (e := (.return_, 1, 0, 0, 0)) (by with_unfolding_all rfl) rfl (by with_unfolding_all rfl)
set_option maxRecDepth 20000 in
theorem b_131i104_0 {d nS : Nat} {M : am_M} {Q : Option Value → am_H → Prop} : am_Wp (d + 1) 131 0 [.ref 170, .ref 25] [] (hp nS M) Q = am_Wp d 296 0 [.int 8, .int 8] [] (hp nS M) (fun v h1 => am_Wp (d + 1) 131 11 [.ref 170, .ref 25] (am_ans v [.int 0, .ref 25, .int 0, .ref 170]) h1 Q) := by
  refine (eq_run 8 (q := (8, [.ref 170, .ref 25], [.int 8, .int 8, .int 0, .ref 25, .int 0, .ref 170], hp nS M)) (by with_unfolding_all rfl)).trans ?_
  exact eq_call2 (e := (.invokestatic 359, 3, 1, 296, 65)) (as := [.int 8, .int 8]) (r := [.int 0, .ref 25, .int 0, .ref 170]) (n := 2) (m := 2) (by with_unfolding_all rfl) rfl (by decide) (by with_unfolding_all rfl) (by decide) (by with_unfolding_all rfl) ⟨fun z => absurd z (by decide), fun z => by simp at z⟩
-- b_131i104_11: copy
theorem k_170_25 {d nS : Nat} {M : am_M} {Q : Option Value → am_H → Prop} : am_Wp (d + 1) 131 0 [.ref 170, .ref 25] [] (hp nS M) Q = Q none (hp nS (am_row M 25 (va_cpy (M 170) (M 25) 0 0 8))) := by
  rw [b_131i104_0, c_296, am_ans_some, show (if (8 : Int32) < 8 then (8 : Int32) else 8) = 8 from rfl]
  refine (eq_copy2 (e := (.invokestatic 362, 3, 6, 0, 66)) (na := 8) (nb := 8) (by with_unfolding_all rfl) rfl rfl (by with_unfolding_all rfl) (by with_unfolding_all rfl) (by decide) (by decide) (by decide) ⟨by decide, by decide, by decide⟩).trans ?_
  exact eq_retV2 (e := (.return_, 1, 0, 0, 0)) (by with_unfolding_all rfl) rfl (by with_unfolding_all rfl)
set_option maxRecDepth 20000 in
theorem b_131i105_0 {d nS : Nat} {M : am_M} {Q : Option Value → am_H → Prop} : am_Wp (d + 1) 131 0 [.ref 171, .ref 26] [] (hp nS M) Q = am_Wp d 296 0 [.int 8, .int 8] [] (hp nS M) (fun v h1 => am_Wp (d + 1) 131 11 [.ref 171, .ref 26] (am_ans v [.int 0, .ref 26, .int 0, .ref 171]) h1 Q) := by
  refine (eq_run 8 (q := (8, [.ref 171, .ref 26], [.int 8, .int 8, .int 0, .ref 26, .int 0, .ref 171], hp nS M)) (by with_unfolding_all rfl)).trans ?_
  exact eq_call2 (e := (.invokestatic 359, 3, 1, 296, 65)) (as := [.int 8, .int 8]) (r := [.int 0, .ref 26, .int 0, .ref 171]) (n := 2) (m := 2) (by with_unfolding_all rfl) rfl (by decide) (by with_unfolding_all rfl) (by decide) (by with_unfolding_all rfl) ⟨fun z => absurd z (by decide), fun z => by simp at z⟩
-- b_131i105_11: copy
theorem k_171_26 {d nS : Nat} {M : am_M} {Q : Option Value → am_H → Prop} : am_Wp (d + 1) 131 0 [.ref 171, .ref 26] [] (hp nS M) Q = Q none (hp nS (am_row M 26 (va_cpy (M 171) (M 26) 0 0 8))) := by
  rw [b_131i105_0, c_296, am_ans_some, show (if (8 : Int32) < 8 then (8 : Int32) else 8) = 8 from rfl]
  refine (eq_copy2 (e := (.invokestatic 362, 3, 6, 0, 66)) (na := 8) (nb := 8) (by with_unfolding_all rfl) rfl rfl (by with_unfolding_all rfl) (by with_unfolding_all rfl) (by decide) (by decide) (by decide) ⟨by decide, by decide, by decide⟩).trans ?_
  exact eq_retV2 (e := (.return_, 1, 0, 0, 0)) (by with_unfolding_all rfl) rfl (by with_unfolding_all rfl)
set_option maxRecDepth 20000 in
theorem b_131i106_0 {d nS : Nat} {M : am_M} {Q : Option Value → am_H → Prop} : am_Wp (d + 1) 131 0 [.ref 172, .ref 27] [] (hp nS M) Q = am_Wp d 296 0 [.int 10, .int 10] [] (hp nS M) (fun v h1 => am_Wp (d + 1) 131 11 [.ref 172, .ref 27] (am_ans v [.int 0, .ref 27, .int 0, .ref 172]) h1 Q) := by
  refine (eq_run 8 (q := (8, [.ref 172, .ref 27], [.int 10, .int 10, .int 0, .ref 27, .int 0, .ref 172], hp nS M)) (by with_unfolding_all rfl)).trans ?_
  exact eq_call2 (e := (.invokestatic 359, 3, 1, 296, 65)) (as := [.int 10, .int 10]) (r := [.int 0, .ref 27, .int 0, .ref 172]) (n := 2) (m := 2) (by with_unfolding_all rfl) rfl (by decide) (by with_unfolding_all rfl) (by decide) (by with_unfolding_all rfl) ⟨fun z => absurd z (by decide), fun z => by simp at z⟩
-- b_131i106_11: copy
theorem k_172_27 {d nS : Nat} {M : am_M} {Q : Option Value → am_H → Prop} : am_Wp (d + 1) 131 0 [.ref 172, .ref 27] [] (hp nS M) Q = Q none (hp nS (am_row M 27 (va_cpy (M 172) (M 27) 0 0 10))) := by
  rw [b_131i106_0, c_296, am_ans_some, show (if (10 : Int32) < 10 then (10 : Int32) else 10) = 10 from rfl]
  refine (eq_copy2 (e := (.invokestatic 362, 3, 6, 0, 66)) (na := 10) (nb := 10) (by with_unfolding_all rfl) rfl rfl (by with_unfolding_all rfl) (by with_unfolding_all rfl) (by decide) (by decide) (by decide) ⟨by decide, by decide, by decide⟩).trans ?_
  exact eq_retV2 (e := (.return_, 1, 0, 0, 0)) (by with_unfolding_all rfl) rfl (by with_unfolding_all rfl)
set_option maxRecDepth 20000 in
theorem b_131i107_0 {d nS : Nat} {M : am_M} {Q : Option Value → am_H → Prop} : am_Wp (d + 1) 131 0 [.ref 173, .ref 28] [] (hp nS M) Q = am_Wp d 296 0 [.int 10, .int 10] [] (hp nS M) (fun v h1 => am_Wp (d + 1) 131 11 [.ref 173, .ref 28] (am_ans v [.int 0, .ref 28, .int 0, .ref 173]) h1 Q) := by
  refine (eq_run 8 (q := (8, [.ref 173, .ref 28], [.int 10, .int 10, .int 0, .ref 28, .int 0, .ref 173], hp nS M)) (by with_unfolding_all rfl)).trans ?_
  exact eq_call2 (e := (.invokestatic 359, 3, 1, 296, 65)) (as := [.int 10, .int 10]) (r := [.int 0, .ref 28, .int 0, .ref 173]) (n := 2) (m := 2) (by with_unfolding_all rfl) rfl (by decide) (by with_unfolding_all rfl) (by decide) (by with_unfolding_all rfl) ⟨fun z => absurd z (by decide), fun z => by simp at z⟩
-- b_131i107_11: copy
theorem k_173_28 {d nS : Nat} {M : am_M} {Q : Option Value → am_H → Prop} : am_Wp (d + 1) 131 0 [.ref 173, .ref 28] [] (hp nS M) Q = Q none (hp nS (am_row M 28 (va_cpy (M 173) (M 28) 0 0 10))) := by
  rw [b_131i107_0, c_296, am_ans_some, show (if (10 : Int32) < 10 then (10 : Int32) else 10) = 10 from rfl]
  refine (eq_copy2 (e := (.invokestatic 362, 3, 6, 0, 66)) (na := 10) (nb := 10) (by with_unfolding_all rfl) rfl rfl (by with_unfolding_all rfl) (by with_unfolding_all rfl) (by decide) (by decide) (by decide) ⟨by decide, by decide, by decide⟩).trans ?_
  exact eq_retV2 (e := (.return_, 1, 0, 0, 0)) (by with_unfolding_all rfl) rfl (by with_unfolding_all rfl)
set_option maxRecDepth 20000 in
theorem b_131i108_0 {d nS : Nat} {M : am_M} {Q : Option Value → am_H → Prop} : am_Wp (d + 1) 131 0 [.ref 174, .ref 29] [] (hp nS M) Q = am_Wp d 296 0 [.int 80, .int 80] [] (hp nS M) (fun v h1 => am_Wp (d + 1) 131 11 [.ref 174, .ref 29] (am_ans v [.int 0, .ref 29, .int 0, .ref 174]) h1 Q) := by
  refine (eq_run 8 (q := (8, [.ref 174, .ref 29], [.int 80, .int 80, .int 0, .ref 29, .int 0, .ref 174], hp nS M)) (by with_unfolding_all rfl)).trans ?_
  exact eq_call2 (e := (.invokestatic 359, 3, 1, 296, 65)) (as := [.int 80, .int 80]) (r := [.int 0, .ref 29, .int 0, .ref 174]) (n := 2) (m := 2) (by with_unfolding_all rfl) rfl (by decide) (by with_unfolding_all rfl) (by decide) (by with_unfolding_all rfl) ⟨fun z => absurd z (by decide), fun z => by simp at z⟩
-- b_131i108_11: copy
theorem k_174_29 {d nS : Nat} {M : am_M} {Q : Option Value → am_H → Prop} : am_Wp (d + 1) 131 0 [.ref 174, .ref 29] [] (hp nS M) Q = Q none (hp nS (am_row M 29 (va_cpy (M 174) (M 29) 0 0 80))) := by
  rw [b_131i108_0, c_296, am_ans_some, show (if (80 : Int32) < 80 then (80 : Int32) else 80) = 80 from rfl]
  refine (eq_copy2 (e := (.invokestatic 362, 3, 6, 0, 66)) (na := 80) (nb := 80) (by with_unfolding_all rfl) rfl rfl (by with_unfolding_all rfl) (by with_unfolding_all rfl) (by decide) (by decide) (by decide) ⟨by decide, by decide, by decide⟩).trans ?_
  exact eq_retV2 (e := (.return_, 1, 0, 0, 0)) (by with_unfolding_all rfl) rfl (by with_unfolding_all rfl)
set_option maxRecDepth 20000 in
theorem b_131i109_0 {d nS : Nat} {M : am_M} {Q : Option Value → am_H → Prop} : am_Wp (d + 1) 131 0 [.ref 152, .ref 19] [] (hp nS M) Q = am_Wp d 296 0 [.int 6, .int 6] [] (hp nS M) (fun v h1 => am_Wp (d + 1) 131 11 [.ref 152, .ref 19] (am_ans v [.int 0, .ref 19, .int 0, .ref 152]) h1 Q) := by
  refine (eq_run 8 (q := (8, [.ref 152, .ref 19], [.int 6, .int 6, .int 0, .ref 19, .int 0, .ref 152], hp nS M)) (by with_unfolding_all rfl)).trans ?_
  exact eq_call2 (e := (.invokestatic 359, 3, 1, 296, 65)) (as := [.int 6, .int 6]) (r := [.int 0, .ref 19, .int 0, .ref 152]) (n := 2) (m := 2) (by with_unfolding_all rfl) rfl (by decide) (by with_unfolding_all rfl) (by decide) (by with_unfolding_all rfl) ⟨fun z => absurd z (by decide), fun z => by simp at z⟩
-- b_131i109_11: copy
theorem k_152_19 {d nS : Nat} {M : am_M} {Q : Option Value → am_H → Prop} : am_Wp (d + 1) 131 0 [.ref 152, .ref 19] [] (hp nS M) Q = Q none (hp nS (am_row M 19 (va_cpy (M 152) (M 19) 0 0 6))) := by
  rw [b_131i109_0, c_296, am_ans_some, show (if (6 : Int32) < 6 then (6 : Int32) else 6) = 6 from rfl]
  refine (eq_copy2 (e := (.invokestatic 362, 3, 6, 0, 66)) (na := 6) (nb := 6) (by with_unfolding_all rfl) rfl rfl (by with_unfolding_all rfl) (by with_unfolding_all rfl) (by decide) (by decide) (by decide) ⟨by decide, by decide, by decide⟩).trans ?_
  exact eq_retV2 (e := (.return_, 1, 0, 0, 0)) (by with_unfolding_all rfl) rfl (by with_unfolding_all rfl)
set_option maxRecDepth 20000 in
theorem b_131i110_0 {d nS : Nat} {M : am_M} {Q : Option Value → am_H → Prop} : am_Wp (d + 1) 131 0 [.ref 153, .ref 20] [] (hp nS M) Q = am_Wp d 296 0 [.int 6, .int 6] [] (hp nS M) (fun v h1 => am_Wp (d + 1) 131 11 [.ref 153, .ref 20] (am_ans v [.int 0, .ref 20, .int 0, .ref 153]) h1 Q) := by
  refine (eq_run 8 (q := (8, [.ref 153, .ref 20], [.int 6, .int 6, .int 0, .ref 20, .int 0, .ref 153], hp nS M)) (by with_unfolding_all rfl)).trans ?_
  exact eq_call2 (e := (.invokestatic 359, 3, 1, 296, 65)) (as := [.int 6, .int 6]) (r := [.int 0, .ref 20, .int 0, .ref 153]) (n := 2) (m := 2) (by with_unfolding_all rfl) rfl (by decide) (by with_unfolding_all rfl) (by decide) (by with_unfolding_all rfl) ⟨fun z => absurd z (by decide), fun z => by simp at z⟩
-- b_131i110_11: copy
theorem k_153_20 {d nS : Nat} {M : am_M} {Q : Option Value → am_H → Prop} : am_Wp (d + 1) 131 0 [.ref 153, .ref 20] [] (hp nS M) Q = Q none (hp nS (am_row M 20 (va_cpy (M 153) (M 20) 0 0 6))) := by
  rw [b_131i110_0, c_296, am_ans_some, show (if (6 : Int32) < 6 then (6 : Int32) else 6) = 6 from rfl]
  refine (eq_copy2 (e := (.invokestatic 362, 3, 6, 0, 66)) (na := 6) (nb := 6) (by with_unfolding_all rfl) rfl rfl (by with_unfolding_all rfl) (by with_unfolding_all rfl) (by decide) (by decide) (by decide) ⟨by decide, by decide, by decide⟩).trans ?_
  exact eq_retV2 (e := (.return_, 1, 0, 0, 0)) (by with_unfolding_all rfl) rfl (by with_unfolding_all rfl)
set_option maxRecDepth 20000 in
theorem b_131i111_0 {d nS : Nat} {M : am_M} {Q : Option Value → am_H → Prop} : am_Wp (d + 1) 131 0 [.ref 154, .ref 21] [] (hp nS M) Q = am_Wp d 296 0 [.int 6, .int 6] [] (hp nS M) (fun v h1 => am_Wp (d + 1) 131 11 [.ref 154, .ref 21] (am_ans v [.int 0, .ref 21, .int 0, .ref 154]) h1 Q) := by
  refine (eq_run 8 (q := (8, [.ref 154, .ref 21], [.int 6, .int 6, .int 0, .ref 21, .int 0, .ref 154], hp nS M)) (by with_unfolding_all rfl)).trans ?_
  exact eq_call2 (e := (.invokestatic 359, 3, 1, 296, 65)) (as := [.int 6, .int 6]) (r := [.int 0, .ref 21, .int 0, .ref 154]) (n := 2) (m := 2) (by with_unfolding_all rfl) rfl (by decide) (by with_unfolding_all rfl) (by decide) (by with_unfolding_all rfl) ⟨fun z => absurd z (by decide), fun z => by simp at z⟩
-- b_131i111_11: copy
theorem k_154_21 {d nS : Nat} {M : am_M} {Q : Option Value → am_H → Prop} : am_Wp (d + 1) 131 0 [.ref 154, .ref 21] [] (hp nS M) Q = Q none (hp nS (am_row M 21 (va_cpy (M 154) (M 21) 0 0 6))) := by
  rw [b_131i111_0, c_296, am_ans_some, show (if (6 : Int32) < 6 then (6 : Int32) else 6) = 6 from rfl]
  refine (eq_copy2 (e := (.invokestatic 362, 3, 6, 0, 66)) (na := 6) (nb := 6) (by with_unfolding_all rfl) rfl rfl (by with_unfolding_all rfl) (by with_unfolding_all rfl) (by decide) (by decide) (by decide) ⟨by decide, by decide, by decide⟩).trans ?_
  exact eq_retV2 (e := (.return_, 1, 0, 0, 0)) (by with_unfolding_all rfl) rfl (by with_unfolding_all rfl)
set_option maxRecDepth 20000 in
theorem b_131i112_0 {d nS : Nat} {M : am_M} {Q : Option Value → am_H → Prop} : am_Wp (d + 1) 131 0 [.ref 155, .ref 22] [] (hp nS M) Q = am_Wp d 296 0 [.int 6, .int 6] [] (hp nS M) (fun v h1 => am_Wp (d + 1) 131 11 [.ref 155, .ref 22] (am_ans v [.int 0, .ref 22, .int 0, .ref 155]) h1 Q) := by
  refine (eq_run 8 (q := (8, [.ref 155, .ref 22], [.int 6, .int 6, .int 0, .ref 22, .int 0, .ref 155], hp nS M)) (by with_unfolding_all rfl)).trans ?_
  exact eq_call2 (e := (.invokestatic 359, 3, 1, 296, 65)) (as := [.int 6, .int 6]) (r := [.int 0, .ref 22, .int 0, .ref 155]) (n := 2) (m := 2) (by with_unfolding_all rfl) rfl (by decide) (by with_unfolding_all rfl) (by decide) (by with_unfolding_all rfl) ⟨fun z => absurd z (by decide), fun z => by simp at z⟩
-- b_131i112_11: copy
theorem k_155_22 {d nS : Nat} {M : am_M} {Q : Option Value → am_H → Prop} : am_Wp (d + 1) 131 0 [.ref 155, .ref 22] [] (hp nS M) Q = Q none (hp nS (am_row M 22 (va_cpy (M 155) (M 22) 0 0 6))) := by
  rw [b_131i112_0, c_296, am_ans_some, show (if (6 : Int32) < 6 then (6 : Int32) else 6) = 6 from rfl]
  refine (eq_copy2 (e := (.invokestatic 362, 3, 6, 0, 66)) (na := 6) (nb := 6) (by with_unfolding_all rfl) rfl rfl (by with_unfolding_all rfl) (by with_unfolding_all rfl) (by decide) (by decide) (by decide) ⟨by decide, by decide, by decide⟩).trans ?_
  exact eq_retV2 (e := (.return_, 1, 0, 0, 0)) (by with_unfolding_all rfl) rfl (by with_unfolding_all rfl)
set_option maxRecDepth 20000 in
theorem b_131i113_0 {d nS : Nat} {M : am_M} {Q : Option Value → am_H → Prop} : am_Wp (d + 1) 131 0 [.ref 156, .ref 23] [] (hp nS M) Q = am_Wp d 296 0 [.int 6, .int 6] [] (hp nS M) (fun v h1 => am_Wp (d + 1) 131 11 [.ref 156, .ref 23] (am_ans v [.int 0, .ref 23, .int 0, .ref 156]) h1 Q) := by
  refine (eq_run 8 (q := (8, [.ref 156, .ref 23], [.int 6, .int 6, .int 0, .ref 23, .int 0, .ref 156], hp nS M)) (by with_unfolding_all rfl)).trans ?_
  exact eq_call2 (e := (.invokestatic 359, 3, 1, 296, 65)) (as := [.int 6, .int 6]) (r := [.int 0, .ref 23, .int 0, .ref 156]) (n := 2) (m := 2) (by with_unfolding_all rfl) rfl (by decide) (by with_unfolding_all rfl) (by decide) (by with_unfolding_all rfl) ⟨fun z => absurd z (by decide), fun z => by simp at z⟩
-- b_131i113_11: copy
theorem k_156_23 {d nS : Nat} {M : am_M} {Q : Option Value → am_H → Prop} : am_Wp (d + 1) 131 0 [.ref 156, .ref 23] [] (hp nS M) Q = Q none (hp nS (am_row M 23 (va_cpy (M 156) (M 23) 0 0 6))) := by
  rw [b_131i113_0, c_296, am_ans_some, show (if (6 : Int32) < 6 then (6 : Int32) else 6) = 6 from rfl]
  refine (eq_copy2 (e := (.invokestatic 362, 3, 6, 0, 66)) (na := 6) (nb := 6) (by with_unfolding_all rfl) rfl rfl (by with_unfolding_all rfl) (by with_unfolding_all rfl) (by decide) (by decide) (by decide) ⟨by decide, by decide, by decide⟩).trans ?_
  exact eq_retV2 (e := (.return_, 1, 0, 0, 0)) (by with_unfolding_all rfl) rfl (by with_unfolding_all rfl)
set_option maxRecDepth 20000 in
theorem b_131i114_0 {d nS : Nat} {M : am_M} {Q : Option Value → am_H → Prop} : am_Wp (d + 1) 131 0 [.ref 157, .ref 24] [] (hp nS M) Q = am_Wp d 296 0 [.int 8, .int 8] [] (hp nS M) (fun v h1 => am_Wp (d + 1) 131 11 [.ref 157, .ref 24] (am_ans v [.int 0, .ref 24, .int 0, .ref 157]) h1 Q) := by
  refine (eq_run 8 (q := (8, [.ref 157, .ref 24], [.int 8, .int 8, .int 0, .ref 24, .int 0, .ref 157], hp nS M)) (by with_unfolding_all rfl)).trans ?_
  exact eq_call2 (e := (.invokestatic 359, 3, 1, 296, 65)) (as := [.int 8, .int 8]) (r := [.int 0, .ref 24, .int 0, .ref 157]) (n := 2) (m := 2) (by with_unfolding_all rfl) rfl (by decide) (by with_unfolding_all rfl) (by decide) (by with_unfolding_all rfl) ⟨fun z => absurd z (by decide), fun z => by simp at z⟩
-- b_131i114_11: copy
theorem k_157_24 {d nS : Nat} {M : am_M} {Q : Option Value → am_H → Prop} : am_Wp (d + 1) 131 0 [.ref 157, .ref 24] [] (hp nS M) Q = Q none (hp nS (am_row M 24 (va_cpy (M 157) (M 24) 0 0 8))) := by
  rw [b_131i114_0, c_296, am_ans_some, show (if (8 : Int32) < 8 then (8 : Int32) else 8) = 8 from rfl]
  refine (eq_copy2 (e := (.invokestatic 362, 3, 6, 0, 66)) (na := 8) (nb := 8) (by with_unfolding_all rfl) rfl rfl (by with_unfolding_all rfl) (by with_unfolding_all rfl) (by decide) (by decide) (by decide) ⟨by decide, by decide, by decide⟩).trans ?_
  exact eq_retV2 (e := (.return_, 1, 0, 0, 0)) (by with_unfolding_all rfl) rfl (by with_unfolding_all rfl)
set_option maxRecDepth 20000 in
theorem b_131i115_0 {d nS : Nat} {M : am_M} {Q : Option Value → am_H → Prop} : am_Wp (d + 1) 131 0 [.ref 158, .ref 25] [] (hp nS M) Q = am_Wp d 296 0 [.int 8, .int 8] [] (hp nS M) (fun v h1 => am_Wp (d + 1) 131 11 [.ref 158, .ref 25] (am_ans v [.int 0, .ref 25, .int 0, .ref 158]) h1 Q) := by
  refine (eq_run 8 (q := (8, [.ref 158, .ref 25], [.int 8, .int 8, .int 0, .ref 25, .int 0, .ref 158], hp nS M)) (by with_unfolding_all rfl)).trans ?_
  exact eq_call2 (e := (.invokestatic 359, 3, 1, 296, 65)) (as := [.int 8, .int 8]) (r := [.int 0, .ref 25, .int 0, .ref 158]) (n := 2) (m := 2) (by with_unfolding_all rfl) rfl (by decide) (by with_unfolding_all rfl) (by decide) (by with_unfolding_all rfl) ⟨fun z => absurd z (by decide), fun z => by simp at z⟩
-- b_131i115_11: copy
theorem k_158_25 {d nS : Nat} {M : am_M} {Q : Option Value → am_H → Prop} : am_Wp (d + 1) 131 0 [.ref 158, .ref 25] [] (hp nS M) Q = Q none (hp nS (am_row M 25 (va_cpy (M 158) (M 25) 0 0 8))) := by
  rw [b_131i115_0, c_296, am_ans_some, show (if (8 : Int32) < 8 then (8 : Int32) else 8) = 8 from rfl]
  refine (eq_copy2 (e := (.invokestatic 362, 3, 6, 0, 66)) (na := 8) (nb := 8) (by with_unfolding_all rfl) rfl rfl (by with_unfolding_all rfl) (by with_unfolding_all rfl) (by decide) (by decide) (by decide) ⟨by decide, by decide, by decide⟩).trans ?_
  exact eq_retV2 (e := (.return_, 1, 0, 0, 0)) (by with_unfolding_all rfl) rfl (by with_unfolding_all rfl)
set_option maxRecDepth 20000 in
theorem b_131i116_0 {d nS : Nat} {M : am_M} {Q : Option Value → am_H → Prop} : am_Wp (d + 1) 131 0 [.ref 159, .ref 26] [] (hp nS M) Q = am_Wp d 296 0 [.int 8, .int 8] [] (hp nS M) (fun v h1 => am_Wp (d + 1) 131 11 [.ref 159, .ref 26] (am_ans v [.int 0, .ref 26, .int 0, .ref 159]) h1 Q) := by
  refine (eq_run 8 (q := (8, [.ref 159, .ref 26], [.int 8, .int 8, .int 0, .ref 26, .int 0, .ref 159], hp nS M)) (by with_unfolding_all rfl)).trans ?_
  exact eq_call2 (e := (.invokestatic 359, 3, 1, 296, 65)) (as := [.int 8, .int 8]) (r := [.int 0, .ref 26, .int 0, .ref 159]) (n := 2) (m := 2) (by with_unfolding_all rfl) rfl (by decide) (by with_unfolding_all rfl) (by decide) (by with_unfolding_all rfl) ⟨fun z => absurd z (by decide), fun z => by simp at z⟩
-- b_131i116_11: copy
theorem k_159_26 {d nS : Nat} {M : am_M} {Q : Option Value → am_H → Prop} : am_Wp (d + 1) 131 0 [.ref 159, .ref 26] [] (hp nS M) Q = Q none (hp nS (am_row M 26 (va_cpy (M 159) (M 26) 0 0 8))) := by
  rw [b_131i116_0, c_296, am_ans_some, show (if (8 : Int32) < 8 then (8 : Int32) else 8) = 8 from rfl]
  refine (eq_copy2 (e := (.invokestatic 362, 3, 6, 0, 66)) (na := 8) (nb := 8) (by with_unfolding_all rfl) rfl rfl (by with_unfolding_all rfl) (by with_unfolding_all rfl) (by decide) (by decide) (by decide) ⟨by decide, by decide, by decide⟩).trans ?_
  exact eq_retV2 (e := (.return_, 1, 0, 0, 0)) (by with_unfolding_all rfl) rfl (by with_unfolding_all rfl)
set_option maxRecDepth 20000 in
theorem b_131i117_0 {d nS : Nat} {M : am_M} {Q : Option Value → am_H → Prop} : am_Wp (d + 1) 131 0 [.ref 160, .ref 27] [] (hp nS M) Q = am_Wp d 296 0 [.int 10, .int 10] [] (hp nS M) (fun v h1 => am_Wp (d + 1) 131 11 [.ref 160, .ref 27] (am_ans v [.int 0, .ref 27, .int 0, .ref 160]) h1 Q) := by
  refine (eq_run 8 (q := (8, [.ref 160, .ref 27], [.int 10, .int 10, .int 0, .ref 27, .int 0, .ref 160], hp nS M)) (by with_unfolding_all rfl)).trans ?_
  exact eq_call2 (e := (.invokestatic 359, 3, 1, 296, 65)) (as := [.int 10, .int 10]) (r := [.int 0, .ref 27, .int 0, .ref 160]) (n := 2) (m := 2) (by with_unfolding_all rfl) rfl (by decide) (by with_unfolding_all rfl) (by decide) (by with_unfolding_all rfl) ⟨fun z => absurd z (by decide), fun z => by simp at z⟩
-- b_131i117_11: copy
theorem k_160_27 {d nS : Nat} {M : am_M} {Q : Option Value → am_H → Prop} : am_Wp (d + 1) 131 0 [.ref 160, .ref 27] [] (hp nS M) Q = Q none (hp nS (am_row M 27 (va_cpy (M 160) (M 27) 0 0 10))) := by
  rw [b_131i117_0, c_296, am_ans_some, show (if (10 : Int32) < 10 then (10 : Int32) else 10) = 10 from rfl]
  refine (eq_copy2 (e := (.invokestatic 362, 3, 6, 0, 66)) (na := 10) (nb := 10) (by with_unfolding_all rfl) rfl rfl (by with_unfolding_all rfl) (by with_unfolding_all rfl) (by decide) (by decide) (by decide) ⟨by decide, by decide, by decide⟩).trans ?_
  exact eq_retV2 (e := (.return_, 1, 0, 0, 0)) (by with_unfolding_all rfl) rfl (by with_unfolding_all rfl)
set_option maxRecDepth 20000 in
theorem b_131i118_0 {d nS : Nat} {M : am_M} {Q : Option Value → am_H → Prop} : am_Wp (d + 1) 131 0 [.ref 161, .ref 28] [] (hp nS M) Q = am_Wp d 296 0 [.int 10, .int 10] [] (hp nS M) (fun v h1 => am_Wp (d + 1) 131 11 [.ref 161, .ref 28] (am_ans v [.int 0, .ref 28, .int 0, .ref 161]) h1 Q) := by
  refine (eq_run 8 (q := (8, [.ref 161, .ref 28], [.int 10, .int 10, .int 0, .ref 28, .int 0, .ref 161], hp nS M)) (by with_unfolding_all rfl)).trans ?_
  exact eq_call2 (e := (.invokestatic 359, 3, 1, 296, 65)) (as := [.int 10, .int 10]) (r := [.int 0, .ref 28, .int 0, .ref 161]) (n := 2) (m := 2) (by with_unfolding_all rfl) rfl (by decide) (by with_unfolding_all rfl) (by decide) (by with_unfolding_all rfl) ⟨fun z => absurd z (by decide), fun z => by simp at z⟩
-- b_131i118_11: copy
theorem k_161_28 {d nS : Nat} {M : am_M} {Q : Option Value → am_H → Prop} : am_Wp (d + 1) 131 0 [.ref 161, .ref 28] [] (hp nS M) Q = Q none (hp nS (am_row M 28 (va_cpy (M 161) (M 28) 0 0 10))) := by
  rw [b_131i118_0, c_296, am_ans_some, show (if (10 : Int32) < 10 then (10 : Int32) else 10) = 10 from rfl]
  refine (eq_copy2 (e := (.invokestatic 362, 3, 6, 0, 66)) (na := 10) (nb := 10) (by with_unfolding_all rfl) rfl rfl (by with_unfolding_all rfl) (by with_unfolding_all rfl) (by decide) (by decide) (by decide) ⟨by decide, by decide, by decide⟩).trans ?_
  exact eq_retV2 (e := (.return_, 1, 0, 0, 0)) (by with_unfolding_all rfl) rfl (by with_unfolding_all rfl)
set_option maxRecDepth 20000 in
theorem b_131i119_0 {d nS : Nat} {M : am_M} {Q : Option Value → am_H → Prop} : am_Wp (d + 1) 131 0 [.ref 162, .ref 29] [] (hp nS M) Q = am_Wp d 296 0 [.int 80, .int 80] [] (hp nS M) (fun v h1 => am_Wp (d + 1) 131 11 [.ref 162, .ref 29] (am_ans v [.int 0, .ref 29, .int 0, .ref 162]) h1 Q) := by
  refine (eq_run 8 (q := (8, [.ref 162, .ref 29], [.int 80, .int 80, .int 0, .ref 29, .int 0, .ref 162], hp nS M)) (by with_unfolding_all rfl)).trans ?_
  exact eq_call2 (e := (.invokestatic 359, 3, 1, 296, 65)) (as := [.int 80, .int 80]) (r := [.int 0, .ref 29, .int 0, .ref 162]) (n := 2) (m := 2) (by with_unfolding_all rfl) rfl (by decide) (by with_unfolding_all rfl) (by decide) (by with_unfolding_all rfl) ⟨fun z => absurd z (by decide), fun z => by simp at z⟩
-- b_131i119_11: copy
theorem k_162_29 {d nS : Nat} {M : am_M} {Q : Option Value → am_H → Prop} : am_Wp (d + 1) 131 0 [.ref 162, .ref 29] [] (hp nS M) Q = Q none (hp nS (am_row M 29 (va_cpy (M 162) (M 29) 0 0 80))) := by
  rw [b_131i119_0, c_296, am_ans_some, show (if (80 : Int32) < 80 then (80 : Int32) else 80) = 80 from rfl]
  refine (eq_copy2 (e := (.invokestatic 362, 3, 6, 0, 66)) (na := 80) (nb := 80) (by with_unfolding_all rfl) rfl rfl (by with_unfolding_all rfl) (by with_unfolding_all rfl) (by decide) (by decide) (by decide) ⟨by decide, by decide, by decide⟩).trans ?_
  exact eq_retV2 (e := (.return_, 1, 0, 0, 0)) (by with_unfolding_all rfl) rfl (by with_unfolding_all rfl)
set_option maxRecDepth 20000 in
theorem b_131i120_0 {d nS : Nat} {M : am_M} {Q : Option Value → am_H → Prop} : am_Wp (d + 1) 131 0 [.ref 140, .ref 19] [] (hp nS M) Q = am_Wp d 296 0 [.int 6, .int 6] [] (hp nS M) (fun v h1 => am_Wp (d + 1) 131 11 [.ref 140, .ref 19] (am_ans v [.int 0, .ref 19, .int 0, .ref 140]) h1 Q) := by
  refine (eq_run 8 (q := (8, [.ref 140, .ref 19], [.int 6, .int 6, .int 0, .ref 19, .int 0, .ref 140], hp nS M)) (by with_unfolding_all rfl)).trans ?_
  exact eq_call2 (e := (.invokestatic 359, 3, 1, 296, 65)) (as := [.int 6, .int 6]) (r := [.int 0, .ref 19, .int 0, .ref 140]) (n := 2) (m := 2) (by with_unfolding_all rfl) rfl (by decide) (by with_unfolding_all rfl) (by decide) (by with_unfolding_all rfl) ⟨fun z => absurd z (by decide), fun z => by simp at z⟩
-- b_131i120_11: copy
theorem k_140_19 {d nS : Nat} {M : am_M} {Q : Option Value → am_H → Prop} : am_Wp (d + 1) 131 0 [.ref 140, .ref 19] [] (hp nS M) Q = Q none (hp nS (am_row M 19 (va_cpy (M 140) (M 19) 0 0 6))) := by
  rw [b_131i120_0, c_296, am_ans_some, show (if (6 : Int32) < 6 then (6 : Int32) else 6) = 6 from rfl]
  refine (eq_copy2 (e := (.invokestatic 362, 3, 6, 0, 66)) (na := 6) (nb := 6) (by with_unfolding_all rfl) rfl rfl (by with_unfolding_all rfl) (by with_unfolding_all rfl) (by decide) (by decide) (by decide) ⟨by decide, by decide, by decide⟩).trans ?_
  exact eq_retV2 (e := (.return_, 1, 0, 0, 0)) (by with_unfolding_all rfl) rfl (by with_unfolding_all rfl)
set_option maxRecDepth 20000 in
theorem b_131i121_0 {d nS : Nat} {M : am_M} {Q : Option Value → am_H → Prop} : am_Wp (d + 1) 131 0 [.ref 141, .ref 20] [] (hp nS M) Q = am_Wp d 296 0 [.int 6, .int 6] [] (hp nS M) (fun v h1 => am_Wp (d + 1) 131 11 [.ref 141, .ref 20] (am_ans v [.int 0, .ref 20, .int 0, .ref 141]) h1 Q) := by
  refine (eq_run 8 (q := (8, [.ref 141, .ref 20], [.int 6, .int 6, .int 0, .ref 20, .int 0, .ref 141], hp nS M)) (by with_unfolding_all rfl)).trans ?_
  exact eq_call2 (e := (.invokestatic 359, 3, 1, 296, 65)) (as := [.int 6, .int 6]) (r := [.int 0, .ref 20, .int 0, .ref 141]) (n := 2) (m := 2) (by with_unfolding_all rfl) rfl (by decide) (by with_unfolding_all rfl) (by decide) (by with_unfolding_all rfl) ⟨fun z => absurd z (by decide), fun z => by simp at z⟩
-- b_131i121_11: copy
theorem k_141_20 {d nS : Nat} {M : am_M} {Q : Option Value → am_H → Prop} : am_Wp (d + 1) 131 0 [.ref 141, .ref 20] [] (hp nS M) Q = Q none (hp nS (am_row M 20 (va_cpy (M 141) (M 20) 0 0 6))) := by
  rw [b_131i121_0, c_296, am_ans_some, show (if (6 : Int32) < 6 then (6 : Int32) else 6) = 6 from rfl]
  refine (eq_copy2 (e := (.invokestatic 362, 3, 6, 0, 66)) (na := 6) (nb := 6) (by with_unfolding_all rfl) rfl rfl (by with_unfolding_all rfl) (by with_unfolding_all rfl) (by decide) (by decide) (by decide) ⟨by decide, by decide, by decide⟩).trans ?_
  exact eq_retV2 (e := (.return_, 1, 0, 0, 0)) (by with_unfolding_all rfl) rfl (by with_unfolding_all rfl)
set_option maxRecDepth 20000 in
theorem b_131i122_0 {d nS : Nat} {M : am_M} {Q : Option Value → am_H → Prop} : am_Wp (d + 1) 131 0 [.ref 142, .ref 21] [] (hp nS M) Q = am_Wp d 296 0 [.int 6, .int 6] [] (hp nS M) (fun v h1 => am_Wp (d + 1) 131 11 [.ref 142, .ref 21] (am_ans v [.int 0, .ref 21, .int 0, .ref 142]) h1 Q) := by
  refine (eq_run 8 (q := (8, [.ref 142, .ref 21], [.int 6, .int 6, .int 0, .ref 21, .int 0, .ref 142], hp nS M)) (by with_unfolding_all rfl)).trans ?_
  exact eq_call2 (e := (.invokestatic 359, 3, 1, 296, 65)) (as := [.int 6, .int 6]) (r := [.int 0, .ref 21, .int 0, .ref 142]) (n := 2) (m := 2) (by with_unfolding_all rfl) rfl (by decide) (by with_unfolding_all rfl) (by decide) (by with_unfolding_all rfl) ⟨fun z => absurd z (by decide), fun z => by simp at z⟩
-- b_131i122_11: copy
theorem k_142_21 {d nS : Nat} {M : am_M} {Q : Option Value → am_H → Prop} : am_Wp (d + 1) 131 0 [.ref 142, .ref 21] [] (hp nS M) Q = Q none (hp nS (am_row M 21 (va_cpy (M 142) (M 21) 0 0 6))) := by
  rw [b_131i122_0, c_296, am_ans_some, show (if (6 : Int32) < 6 then (6 : Int32) else 6) = 6 from rfl]
  refine (eq_copy2 (e := (.invokestatic 362, 3, 6, 0, 66)) (na := 6) (nb := 6) (by with_unfolding_all rfl) rfl rfl (by with_unfolding_all rfl) (by with_unfolding_all rfl) (by decide) (by decide) (by decide) ⟨by decide, by decide, by decide⟩).trans ?_
  exact eq_retV2 (e := (.return_, 1, 0, 0, 0)) (by with_unfolding_all rfl) rfl (by with_unfolding_all rfl)
set_option maxRecDepth 20000 in
theorem b_131i123_0 {d nS : Nat} {M : am_M} {Q : Option Value → am_H → Prop} : am_Wp (d + 1) 131 0 [.ref 143, .ref 22] [] (hp nS M) Q = am_Wp d 296 0 [.int 6, .int 6] [] (hp nS M) (fun v h1 => am_Wp (d + 1) 131 11 [.ref 143, .ref 22] (am_ans v [.int 0, .ref 22, .int 0, .ref 143]) h1 Q) := by
  refine (eq_run 8 (q := (8, [.ref 143, .ref 22], [.int 6, .int 6, .int 0, .ref 22, .int 0, .ref 143], hp nS M)) (by with_unfolding_all rfl)).trans ?_
  exact eq_call2 (e := (.invokestatic 359, 3, 1, 296, 65)) (as := [.int 6, .int 6]) (r := [.int 0, .ref 22, .int 0, .ref 143]) (n := 2) (m := 2) (by with_unfolding_all rfl) rfl (by decide) (by with_unfolding_all rfl) (by decide) (by with_unfolding_all rfl) ⟨fun z => absurd z (by decide), fun z => by simp at z⟩
-- b_131i123_11: copy
theorem k_143_22 {d nS : Nat} {M : am_M} {Q : Option Value → am_H → Prop} : am_Wp (d + 1) 131 0 [.ref 143, .ref 22] [] (hp nS M) Q = Q none (hp nS (am_row M 22 (va_cpy (M 143) (M 22) 0 0 6))) := by
  rw [b_131i123_0, c_296, am_ans_some, show (if (6 : Int32) < 6 then (6 : Int32) else 6) = 6 from rfl]
  refine (eq_copy2 (e := (.invokestatic 362, 3, 6, 0, 66)) (na := 6) (nb := 6) (by with_unfolding_all rfl) rfl rfl (by with_unfolding_all rfl) (by with_unfolding_all rfl) (by decide) (by decide) (by decide) ⟨by decide, by decide, by decide⟩).trans ?_
  exact eq_retV2 (e := (.return_, 1, 0, 0, 0)) (by with_unfolding_all rfl) rfl (by with_unfolding_all rfl)
set_option maxRecDepth 20000 in
theorem b_131i124_0 {d nS : Nat} {M : am_M} {Q : Option Value → am_H → Prop} : am_Wp (d + 1) 131 0 [.ref 144, .ref 23] [] (hp nS M) Q = am_Wp d 296 0 [.int 6, .int 6] [] (hp nS M) (fun v h1 => am_Wp (d + 1) 131 11 [.ref 144, .ref 23] (am_ans v [.int 0, .ref 23, .int 0, .ref 144]) h1 Q) := by
  refine (eq_run 8 (q := (8, [.ref 144, .ref 23], [.int 6, .int 6, .int 0, .ref 23, .int 0, .ref 144], hp nS M)) (by with_unfolding_all rfl)).trans ?_
  exact eq_call2 (e := (.invokestatic 359, 3, 1, 296, 65)) (as := [.int 6, .int 6]) (r := [.int 0, .ref 23, .int 0, .ref 144]) (n := 2) (m := 2) (by with_unfolding_all rfl) rfl (by decide) (by with_unfolding_all rfl) (by decide) (by with_unfolding_all rfl) ⟨fun z => absurd z (by decide), fun z => by simp at z⟩
-- b_131i124_11: copy
theorem k_144_23 {d nS : Nat} {M : am_M} {Q : Option Value → am_H → Prop} : am_Wp (d + 1) 131 0 [.ref 144, .ref 23] [] (hp nS M) Q = Q none (hp nS (am_row M 23 (va_cpy (M 144) (M 23) 0 0 6))) := by
  rw [b_131i124_0, c_296, am_ans_some, show (if (6 : Int32) < 6 then (6 : Int32) else 6) = 6 from rfl]
  refine (eq_copy2 (e := (.invokestatic 362, 3, 6, 0, 66)) (na := 6) (nb := 6) (by with_unfolding_all rfl) rfl rfl (by with_unfolding_all rfl) (by with_unfolding_all rfl) (by decide) (by decide) (by decide) ⟨by decide, by decide, by decide⟩).trans ?_
  exact eq_retV2 (e := (.return_, 1, 0, 0, 0)) (by with_unfolding_all rfl) rfl (by with_unfolding_all rfl)
set_option maxRecDepth 20000 in
theorem b_131i125_0 {d nS : Nat} {M : am_M} {Q : Option Value → am_H → Prop} : am_Wp (d + 1) 131 0 [.ref 145, .ref 24] [] (hp nS M) Q = am_Wp d 296 0 [.int 8, .int 8] [] (hp nS M) (fun v h1 => am_Wp (d + 1) 131 11 [.ref 145, .ref 24] (am_ans v [.int 0, .ref 24, .int 0, .ref 145]) h1 Q) := by
  refine (eq_run 8 (q := (8, [.ref 145, .ref 24], [.int 8, .int 8, .int 0, .ref 24, .int 0, .ref 145], hp nS M)) (by with_unfolding_all rfl)).trans ?_
  exact eq_call2 (e := (.invokestatic 359, 3, 1, 296, 65)) (as := [.int 8, .int 8]) (r := [.int 0, .ref 24, .int 0, .ref 145]) (n := 2) (m := 2) (by with_unfolding_all rfl) rfl (by decide) (by with_unfolding_all rfl) (by decide) (by with_unfolding_all rfl) ⟨fun z => absurd z (by decide), fun z => by simp at z⟩
-- b_131i125_11: copy
theorem k_145_24 {d nS : Nat} {M : am_M} {Q : Option Value → am_H → Prop} : am_Wp (d + 1) 131 0 [.ref 145, .ref 24] [] (hp nS M) Q = Q none (hp nS (am_row M 24 (va_cpy (M 145) (M 24) 0 0 8))) := by
  rw [b_131i125_0, c_296, am_ans_some, show (if (8 : Int32) < 8 then (8 : Int32) else 8) = 8 from rfl]
  refine (eq_copy2 (e := (.invokestatic 362, 3, 6, 0, 66)) (na := 8) (nb := 8) (by with_unfolding_all rfl) rfl rfl (by with_unfolding_all rfl) (by with_unfolding_all rfl) (by decide) (by decide) (by decide) ⟨by decide, by decide, by decide⟩).trans ?_
  exact eq_retV2 (e := (.return_, 1, 0, 0, 0)) (by with_unfolding_all rfl) rfl (by with_unfolding_all rfl)
set_option maxRecDepth 20000 in
theorem b_131i126_0 {d nS : Nat} {M : am_M} {Q : Option Value → am_H → Prop} : am_Wp (d + 1) 131 0 [.ref 146, .ref 25] [] (hp nS M) Q = am_Wp d 296 0 [.int 8, .int 8] [] (hp nS M) (fun v h1 => am_Wp (d + 1) 131 11 [.ref 146, .ref 25] (am_ans v [.int 0, .ref 25, .int 0, .ref 146]) h1 Q) := by
  refine (eq_run 8 (q := (8, [.ref 146, .ref 25], [.int 8, .int 8, .int 0, .ref 25, .int 0, .ref 146], hp nS M)) (by with_unfolding_all rfl)).trans ?_
  exact eq_call2 (e := (.invokestatic 359, 3, 1, 296, 65)) (as := [.int 8, .int 8]) (r := [.int 0, .ref 25, .int 0, .ref 146]) (n := 2) (m := 2) (by with_unfolding_all rfl) rfl (by decide) (by with_unfolding_all rfl) (by decide) (by with_unfolding_all rfl) ⟨fun z => absurd z (by decide), fun z => by simp at z⟩
-- b_131i126_11: copy
theorem k_146_25 {d nS : Nat} {M : am_M} {Q : Option Value → am_H → Prop} : am_Wp (d + 1) 131 0 [.ref 146, .ref 25] [] (hp nS M) Q = Q none (hp nS (am_row M 25 (va_cpy (M 146) (M 25) 0 0 8))) := by
  rw [b_131i126_0, c_296, am_ans_some, show (if (8 : Int32) < 8 then (8 : Int32) else 8) = 8 from rfl]
  refine (eq_copy2 (e := (.invokestatic 362, 3, 6, 0, 66)) (na := 8) (nb := 8) (by with_unfolding_all rfl) rfl rfl (by with_unfolding_all rfl) (by with_unfolding_all rfl) (by decide) (by decide) (by decide) ⟨by decide, by decide, by decide⟩).trans ?_
  exact eq_retV2 (e := (.return_, 1, 0, 0, 0)) (by with_unfolding_all rfl) rfl (by with_unfolding_all rfl)
set_option maxRecDepth 20000 in
theorem b_131i127_0 {d nS : Nat} {M : am_M} {Q : Option Value → am_H → Prop} : am_Wp (d + 1) 131 0 [.ref 147, .ref 26] [] (hp nS M) Q = am_Wp d 296 0 [.int 8, .int 8] [] (hp nS M) (fun v h1 => am_Wp (d + 1) 131 11 [.ref 147, .ref 26] (am_ans v [.int 0, .ref 26, .int 0, .ref 147]) h1 Q) := by
  refine (eq_run 8 (q := (8, [.ref 147, .ref 26], [.int 8, .int 8, .int 0, .ref 26, .int 0, .ref 147], hp nS M)) (by with_unfolding_all rfl)).trans ?_
  exact eq_call2 (e := (.invokestatic 359, 3, 1, 296, 65)) (as := [.int 8, .int 8]) (r := [.int 0, .ref 26, .int 0, .ref 147]) (n := 2) (m := 2) (by with_unfolding_all rfl) rfl (by decide) (by with_unfolding_all rfl) (by decide) (by with_unfolding_all rfl) ⟨fun z => absurd z (by decide), fun z => by simp at z⟩
-- b_131i127_11: copy
theorem k_147_26 {d nS : Nat} {M : am_M} {Q : Option Value → am_H → Prop} : am_Wp (d + 1) 131 0 [.ref 147, .ref 26] [] (hp nS M) Q = Q none (hp nS (am_row M 26 (va_cpy (M 147) (M 26) 0 0 8))) := by
  rw [b_131i127_0, c_296, am_ans_some, show (if (8 : Int32) < 8 then (8 : Int32) else 8) = 8 from rfl]
  refine (eq_copy2 (e := (.invokestatic 362, 3, 6, 0, 66)) (na := 8) (nb := 8) (by with_unfolding_all rfl) rfl rfl (by with_unfolding_all rfl) (by with_unfolding_all rfl) (by decide) (by decide) (by decide) ⟨by decide, by decide, by decide⟩).trans ?_
  exact eq_retV2 (e := (.return_, 1, 0, 0, 0)) (by with_unfolding_all rfl) rfl (by with_unfolding_all rfl)
set_option maxRecDepth 20000 in
theorem b_131i128_0 {d nS : Nat} {M : am_M} {Q : Option Value → am_H → Prop} : am_Wp (d + 1) 131 0 [.ref 148, .ref 27] [] (hp nS M) Q = am_Wp d 296 0 [.int 10, .int 10] [] (hp nS M) (fun v h1 => am_Wp (d + 1) 131 11 [.ref 148, .ref 27] (am_ans v [.int 0, .ref 27, .int 0, .ref 148]) h1 Q) := by
  refine (eq_run 8 (q := (8, [.ref 148, .ref 27], [.int 10, .int 10, .int 0, .ref 27, .int 0, .ref 148], hp nS M)) (by with_unfolding_all rfl)).trans ?_
  exact eq_call2 (e := (.invokestatic 359, 3, 1, 296, 65)) (as := [.int 10, .int 10]) (r := [.int 0, .ref 27, .int 0, .ref 148]) (n := 2) (m := 2) (by with_unfolding_all rfl) rfl (by decide) (by with_unfolding_all rfl) (by decide) (by with_unfolding_all rfl) ⟨fun z => absurd z (by decide), fun z => by simp at z⟩
-- b_131i128_11: copy
theorem k_148_27 {d nS : Nat} {M : am_M} {Q : Option Value → am_H → Prop} : am_Wp (d + 1) 131 0 [.ref 148, .ref 27] [] (hp nS M) Q = Q none (hp nS (am_row M 27 (va_cpy (M 148) (M 27) 0 0 10))) := by
  rw [b_131i128_0, c_296, am_ans_some, show (if (10 : Int32) < 10 then (10 : Int32) else 10) = 10 from rfl]
  refine (eq_copy2 (e := (.invokestatic 362, 3, 6, 0, 66)) (na := 10) (nb := 10) (by with_unfolding_all rfl) rfl rfl (by with_unfolding_all rfl) (by with_unfolding_all rfl) (by decide) (by decide) (by decide) ⟨by decide, by decide, by decide⟩).trans ?_
  exact eq_retV2 (e := (.return_, 1, 0, 0, 0)) (by with_unfolding_all rfl) rfl (by with_unfolding_all rfl)
set_option maxRecDepth 20000 in
theorem b_131i129_0 {d nS : Nat} {M : am_M} {Q : Option Value → am_H → Prop} : am_Wp (d + 1) 131 0 [.ref 149, .ref 28] [] (hp nS M) Q = am_Wp d 296 0 [.int 10, .int 10] [] (hp nS M) (fun v h1 => am_Wp (d + 1) 131 11 [.ref 149, .ref 28] (am_ans v [.int 0, .ref 28, .int 0, .ref 149]) h1 Q) := by
  refine (eq_run 8 (q := (8, [.ref 149, .ref 28], [.int 10, .int 10, .int 0, .ref 28, .int 0, .ref 149], hp nS M)) (by with_unfolding_all rfl)).trans ?_
  exact eq_call2 (e := (.invokestatic 359, 3, 1, 296, 65)) (as := [.int 10, .int 10]) (r := [.int 0, .ref 28, .int 0, .ref 149]) (n := 2) (m := 2) (by with_unfolding_all rfl) rfl (by decide) (by with_unfolding_all rfl) (by decide) (by with_unfolding_all rfl) ⟨fun z => absurd z (by decide), fun z => by simp at z⟩
-- b_131i129_11: copy
theorem k_149_28 {d nS : Nat} {M : am_M} {Q : Option Value → am_H → Prop} : am_Wp (d + 1) 131 0 [.ref 149, .ref 28] [] (hp nS M) Q = Q none (hp nS (am_row M 28 (va_cpy (M 149) (M 28) 0 0 10))) := by
  rw [b_131i129_0, c_296, am_ans_some, show (if (10 : Int32) < 10 then (10 : Int32) else 10) = 10 from rfl]
  refine (eq_copy2 (e := (.invokestatic 362, 3, 6, 0, 66)) (na := 10) (nb := 10) (by with_unfolding_all rfl) rfl rfl (by with_unfolding_all rfl) (by with_unfolding_all rfl) (by decide) (by decide) (by decide) ⟨by decide, by decide, by decide⟩).trans ?_
  exact eq_retV2 (e := (.return_, 1, 0, 0, 0)) (by with_unfolding_all rfl) rfl (by with_unfolding_all rfl)
set_option maxRecDepth 20000 in
theorem b_131i130_0 {d nS : Nat} {M : am_M} {Q : Option Value → am_H → Prop} : am_Wp (d + 1) 131 0 [.ref 150, .ref 29] [] (hp nS M) Q = am_Wp d 296 0 [.int 80, .int 80] [] (hp nS M) (fun v h1 => am_Wp (d + 1) 131 11 [.ref 150, .ref 29] (am_ans v [.int 0, .ref 29, .int 0, .ref 150]) h1 Q) := by
  refine (eq_run 8 (q := (8, [.ref 150, .ref 29], [.int 80, .int 80, .int 0, .ref 29, .int 0, .ref 150], hp nS M)) (by with_unfolding_all rfl)).trans ?_
  exact eq_call2 (e := (.invokestatic 359, 3, 1, 296, 65)) (as := [.int 80, .int 80]) (r := [.int 0, .ref 29, .int 0, .ref 150]) (n := 2) (m := 2) (by with_unfolding_all rfl) rfl (by decide) (by with_unfolding_all rfl) (by decide) (by with_unfolding_all rfl) ⟨fun z => absurd z (by decide), fun z => by simp at z⟩
-- b_131i130_11: copy
theorem k_150_29 {d nS : Nat} {M : am_M} {Q : Option Value → am_H → Prop} : am_Wp (d + 1) 131 0 [.ref 150, .ref 29] [] (hp nS M) Q = Q none (hp nS (am_row M 29 (va_cpy (M 150) (M 29) 0 0 80))) := by
  rw [b_131i130_0, c_296, am_ans_some, show (if (80 : Int32) < 80 then (80 : Int32) else 80) = 80 from rfl]
  refine (eq_copy2 (e := (.invokestatic 362, 3, 6, 0, 66)) (na := 80) (nb := 80) (by with_unfolding_all rfl) rfl rfl (by with_unfolding_all rfl) (by with_unfolding_all rfl) (by decide) (by decide) (by decide) ⟨by decide, by decide, by decide⟩).trans ?_
  exact eq_retV2 (e := (.return_, 1, 0, 0, 0)) (by with_unfolding_all rfl) rfl (by with_unfolding_all rfl)
set_option maxRecDepth 20000 in
theorem b_131i131_0 {d nS : Nat} {M : am_M} {Q : Option Value → am_H → Prop} : am_Wp (d + 1) 131 0 [.ref 128, .ref 19] [] (hp nS M) Q = am_Wp d 296 0 [.int 6, .int 6] [] (hp nS M) (fun v h1 => am_Wp (d + 1) 131 11 [.ref 128, .ref 19] (am_ans v [.int 0, .ref 19, .int 0, .ref 128]) h1 Q) := by
  refine (eq_run 8 (q := (8, [.ref 128, .ref 19], [.int 6, .int 6, .int 0, .ref 19, .int 0, .ref 128], hp nS M)) (by with_unfolding_all rfl)).trans ?_
  exact eq_call2 (e := (.invokestatic 359, 3, 1, 296, 65)) (as := [.int 6, .int 6]) (r := [.int 0, .ref 19, .int 0, .ref 128]) (n := 2) (m := 2) (by with_unfolding_all rfl) rfl (by decide) (by with_unfolding_all rfl) (by decide) (by with_unfolding_all rfl) ⟨fun z => absurd z (by decide), fun z => by simp at z⟩
-- b_131i131_11: copy
theorem k_128_19 {d nS : Nat} {M : am_M} {Q : Option Value → am_H → Prop} : am_Wp (d + 1) 131 0 [.ref 128, .ref 19] [] (hp nS M) Q = Q none (hp nS (am_row M 19 (va_cpy (M 128) (M 19) 0 0 6))) := by
  rw [b_131i131_0, c_296, am_ans_some, show (if (6 : Int32) < 6 then (6 : Int32) else 6) = 6 from rfl]
  refine (eq_copy2 (e := (.invokestatic 362, 3, 6, 0, 66)) (na := 6) (nb := 6) (by with_unfolding_all rfl) rfl rfl (by with_unfolding_all rfl) (by with_unfolding_all rfl) (by decide) (by decide) (by decide) ⟨by decide, by decide, by decide⟩).trans ?_
  exact eq_retV2 (e := (.return_, 1, 0, 0, 0)) (by with_unfolding_all rfl) rfl (by with_unfolding_all rfl)
set_option maxRecDepth 20000 in
theorem b_131i132_0 {d nS : Nat} {M : am_M} {Q : Option Value → am_H → Prop} : am_Wp (d + 1) 131 0 [.ref 129, .ref 20] [] (hp nS M) Q = am_Wp d 296 0 [.int 6, .int 6] [] (hp nS M) (fun v h1 => am_Wp (d + 1) 131 11 [.ref 129, .ref 20] (am_ans v [.int 0, .ref 20, .int 0, .ref 129]) h1 Q) := by
  refine (eq_run 8 (q := (8, [.ref 129, .ref 20], [.int 6, .int 6, .int 0, .ref 20, .int 0, .ref 129], hp nS M)) (by with_unfolding_all rfl)).trans ?_
  exact eq_call2 (e := (.invokestatic 359, 3, 1, 296, 65)) (as := [.int 6, .int 6]) (r := [.int 0, .ref 20, .int 0, .ref 129]) (n := 2) (m := 2) (by with_unfolding_all rfl) rfl (by decide) (by with_unfolding_all rfl) (by decide) (by with_unfolding_all rfl) ⟨fun z => absurd z (by decide), fun z => by simp at z⟩
-- b_131i132_11: copy
theorem k_129_20 {d nS : Nat} {M : am_M} {Q : Option Value → am_H → Prop} : am_Wp (d + 1) 131 0 [.ref 129, .ref 20] [] (hp nS M) Q = Q none (hp nS (am_row M 20 (va_cpy (M 129) (M 20) 0 0 6))) := by
  rw [b_131i132_0, c_296, am_ans_some, show (if (6 : Int32) < 6 then (6 : Int32) else 6) = 6 from rfl]
  refine (eq_copy2 (e := (.invokestatic 362, 3, 6, 0, 66)) (na := 6) (nb := 6) (by with_unfolding_all rfl) rfl rfl (by with_unfolding_all rfl) (by with_unfolding_all rfl) (by decide) (by decide) (by decide) ⟨by decide, by decide, by decide⟩).trans ?_
  exact eq_retV2 (e := (.return_, 1, 0, 0, 0)) (by with_unfolding_all rfl) rfl (by with_unfolding_all rfl)
set_option maxRecDepth 20000 in
theorem b_131i133_0 {d nS : Nat} {M : am_M} {Q : Option Value → am_H → Prop} : am_Wp (d + 1) 131 0 [.ref 130, .ref 21] [] (hp nS M) Q = am_Wp d 296 0 [.int 6, .int 6] [] (hp nS M) (fun v h1 => am_Wp (d + 1) 131 11 [.ref 130, .ref 21] (am_ans v [.int 0, .ref 21, .int 0, .ref 130]) h1 Q) := by
  refine (eq_run 8 (q := (8, [.ref 130, .ref 21], [.int 6, .int 6, .int 0, .ref 21, .int 0, .ref 130], hp nS M)) (by with_unfolding_all rfl)).trans ?_
  exact eq_call2 (e := (.invokestatic 359, 3, 1, 296, 65)) (as := [.int 6, .int 6]) (r := [.int 0, .ref 21, .int 0, .ref 130]) (n := 2) (m := 2) (by with_unfolding_all rfl) rfl (by decide) (by with_unfolding_all rfl) (by decide) (by with_unfolding_all rfl) ⟨fun z => absurd z (by decide), fun z => by simp at z⟩
-- b_131i133_11: copy
theorem k_130_21 {d nS : Nat} {M : am_M} {Q : Option Value → am_H → Prop} : am_Wp (d + 1) 131 0 [.ref 130, .ref 21] [] (hp nS M) Q = Q none (hp nS (am_row M 21 (va_cpy (M 130) (M 21) 0 0 6))) := by
  rw [b_131i133_0, c_296, am_ans_some, show (if (6 : Int32) < 6 then (6 : Int32) else 6) = 6 from rfl]
  refine (eq_copy2 (e := (.invokestatic 362, 3, 6, 0, 66)) (na := 6) (nb := 6) (by with_unfolding_all rfl) rfl rfl (by with_unfolding_all rfl) (by with_unfolding_all rfl) (by decide) (by decide) (by decide) ⟨by decide, by decide, by decide⟩).trans ?_
  exact eq_retV2 (e := (.return_, 1, 0, 0, 0)) (by with_unfolding_all rfl) rfl (by with_unfolding_all rfl)
set_option maxRecDepth 20000 in
theorem b_131i134_0 {d nS : Nat} {M : am_M} {Q : Option Value → am_H → Prop} : am_Wp (d + 1) 131 0 [.ref 131, .ref 22] [] (hp nS M) Q = am_Wp d 296 0 [.int 6, .int 6] [] (hp nS M) (fun v h1 => am_Wp (d + 1) 131 11 [.ref 131, .ref 22] (am_ans v [.int 0, .ref 22, .int 0, .ref 131]) h1 Q) := by
  refine (eq_run 8 (q := (8, [.ref 131, .ref 22], [.int 6, .int 6, .int 0, .ref 22, .int 0, .ref 131], hp nS M)) (by with_unfolding_all rfl)).trans ?_
  exact eq_call2 (e := (.invokestatic 359, 3, 1, 296, 65)) (as := [.int 6, .int 6]) (r := [.int 0, .ref 22, .int 0, .ref 131]) (n := 2) (m := 2) (by with_unfolding_all rfl) rfl (by decide) (by with_unfolding_all rfl) (by decide) (by with_unfolding_all rfl) ⟨fun z => absurd z (by decide), fun z => by simp at z⟩
-- b_131i134_11: copy
theorem k_131_22 {d nS : Nat} {M : am_M} {Q : Option Value → am_H → Prop} : am_Wp (d + 1) 131 0 [.ref 131, .ref 22] [] (hp nS M) Q = Q none (hp nS (am_row M 22 (va_cpy (M 131) (M 22) 0 0 6))) := by
  rw [b_131i134_0, c_296, am_ans_some, show (if (6 : Int32) < 6 then (6 : Int32) else 6) = 6 from rfl]
  refine (eq_copy2 (e := (.invokestatic 362, 3, 6, 0, 66)) (na := 6) (nb := 6) (by with_unfolding_all rfl) rfl rfl (by with_unfolding_all rfl) (by with_unfolding_all rfl) (by decide) (by decide) (by decide) ⟨by decide, by decide, by decide⟩).trans ?_
  exact eq_retV2 (e := (.return_, 1, 0, 0, 0)) (by with_unfolding_all rfl) rfl (by with_unfolding_all rfl)
set_option maxRecDepth 20000 in
theorem b_131i135_0 {d nS : Nat} {M : am_M} {Q : Option Value → am_H → Prop} : am_Wp (d + 1) 131 0 [.ref 132, .ref 23] [] (hp nS M) Q = am_Wp d 296 0 [.int 6, .int 6] [] (hp nS M) (fun v h1 => am_Wp (d + 1) 131 11 [.ref 132, .ref 23] (am_ans v [.int 0, .ref 23, .int 0, .ref 132]) h1 Q) := by
  refine (eq_run 8 (q := (8, [.ref 132, .ref 23], [.int 6, .int 6, .int 0, .ref 23, .int 0, .ref 132], hp nS M)) (by with_unfolding_all rfl)).trans ?_
  exact eq_call2 (e := (.invokestatic 359, 3, 1, 296, 65)) (as := [.int 6, .int 6]) (r := [.int 0, .ref 23, .int 0, .ref 132]) (n := 2) (m := 2) (by with_unfolding_all rfl) rfl (by decide) (by with_unfolding_all rfl) (by decide) (by with_unfolding_all rfl) ⟨fun z => absurd z (by decide), fun z => by simp at z⟩
-- b_131i135_11: copy
theorem k_132_23 {d nS : Nat} {M : am_M} {Q : Option Value → am_H → Prop} : am_Wp (d + 1) 131 0 [.ref 132, .ref 23] [] (hp nS M) Q = Q none (hp nS (am_row M 23 (va_cpy (M 132) (M 23) 0 0 6))) := by
  rw [b_131i135_0, c_296, am_ans_some, show (if (6 : Int32) < 6 then (6 : Int32) else 6) = 6 from rfl]
  refine (eq_copy2 (e := (.invokestatic 362, 3, 6, 0, 66)) (na := 6) (nb := 6) (by with_unfolding_all rfl) rfl rfl (by with_unfolding_all rfl) (by with_unfolding_all rfl) (by decide) (by decide) (by decide) ⟨by decide, by decide, by decide⟩).trans ?_
  exact eq_retV2 (e := (.return_, 1, 0, 0, 0)) (by with_unfolding_all rfl) rfl (by with_unfolding_all rfl)
set_option maxRecDepth 20000 in
theorem b_131i136_0 {d nS : Nat} {M : am_M} {Q : Option Value → am_H → Prop} : am_Wp (d + 1) 131 0 [.ref 133, .ref 24] [] (hp nS M) Q = am_Wp d 296 0 [.int 8, .int 8] [] (hp nS M) (fun v h1 => am_Wp (d + 1) 131 11 [.ref 133, .ref 24] (am_ans v [.int 0, .ref 24, .int 0, .ref 133]) h1 Q) := by
  refine (eq_run 8 (q := (8, [.ref 133, .ref 24], [.int 8, .int 8, .int 0, .ref 24, .int 0, .ref 133], hp nS M)) (by with_unfolding_all rfl)).trans ?_
  exact eq_call2 (e := (.invokestatic 359, 3, 1, 296, 65)) (as := [.int 8, .int 8]) (r := [.int 0, .ref 24, .int 0, .ref 133]) (n := 2) (m := 2) (by with_unfolding_all rfl) rfl (by decide) (by with_unfolding_all rfl) (by decide) (by with_unfolding_all rfl) ⟨fun z => absurd z (by decide), fun z => by simp at z⟩
-- b_131i136_11: copy
theorem k_133_24 {d nS : Nat} {M : am_M} {Q : Option Value → am_H → Prop} : am_Wp (d + 1) 131 0 [.ref 133, .ref 24] [] (hp nS M) Q = Q none (hp nS (am_row M 24 (va_cpy (M 133) (M 24) 0 0 8))) := by
  rw [b_131i136_0, c_296, am_ans_some, show (if (8 : Int32) < 8 then (8 : Int32) else 8) = 8 from rfl]
  refine (eq_copy2 (e := (.invokestatic 362, 3, 6, 0, 66)) (na := 8) (nb := 8) (by with_unfolding_all rfl) rfl rfl (by with_unfolding_all rfl) (by with_unfolding_all rfl) (by decide) (by decide) (by decide) ⟨by decide, by decide, by decide⟩).trans ?_
  exact eq_retV2 (e := (.return_, 1, 0, 0, 0)) (by with_unfolding_all rfl) rfl (by with_unfolding_all rfl)
set_option maxRecDepth 20000 in
theorem b_131i137_0 {d nS : Nat} {M : am_M} {Q : Option Value → am_H → Prop} : am_Wp (d + 1) 131 0 [.ref 134, .ref 25] [] (hp nS M) Q = am_Wp d 296 0 [.int 8, .int 8] [] (hp nS M) (fun v h1 => am_Wp (d + 1) 131 11 [.ref 134, .ref 25] (am_ans v [.int 0, .ref 25, .int 0, .ref 134]) h1 Q) := by
  refine (eq_run 8 (q := (8, [.ref 134, .ref 25], [.int 8, .int 8, .int 0, .ref 25, .int 0, .ref 134], hp nS M)) (by with_unfolding_all rfl)).trans ?_
  exact eq_call2 (e := (.invokestatic 359, 3, 1, 296, 65)) (as := [.int 8, .int 8]) (r := [.int 0, .ref 25, .int 0, .ref 134]) (n := 2) (m := 2) (by with_unfolding_all rfl) rfl (by decide) (by with_unfolding_all rfl) (by decide) (by with_unfolding_all rfl) ⟨fun z => absurd z (by decide), fun z => by simp at z⟩
-- b_131i137_11: copy
theorem k_134_25 {d nS : Nat} {M : am_M} {Q : Option Value → am_H → Prop} : am_Wp (d + 1) 131 0 [.ref 134, .ref 25] [] (hp nS M) Q = Q none (hp nS (am_row M 25 (va_cpy (M 134) (M 25) 0 0 8))) := by
  rw [b_131i137_0, c_296, am_ans_some, show (if (8 : Int32) < 8 then (8 : Int32) else 8) = 8 from rfl]
  refine (eq_copy2 (e := (.invokestatic 362, 3, 6, 0, 66)) (na := 8) (nb := 8) (by with_unfolding_all rfl) rfl rfl (by with_unfolding_all rfl) (by with_unfolding_all rfl) (by decide) (by decide) (by decide) ⟨by decide, by decide, by decide⟩).trans ?_
  exact eq_retV2 (e := (.return_, 1, 0, 0, 0)) (by with_unfolding_all rfl) rfl (by with_unfolding_all rfl)
set_option maxRecDepth 20000 in
theorem b_131i138_0 {d nS : Nat} {M : am_M} {Q : Option Value → am_H → Prop} : am_Wp (d + 1) 131 0 [.ref 135, .ref 26] [] (hp nS M) Q = am_Wp d 296 0 [.int 8, .int 8] [] (hp nS M) (fun v h1 => am_Wp (d + 1) 131 11 [.ref 135, .ref 26] (am_ans v [.int 0, .ref 26, .int 0, .ref 135]) h1 Q) := by
  refine (eq_run 8 (q := (8, [.ref 135, .ref 26], [.int 8, .int 8, .int 0, .ref 26, .int 0, .ref 135], hp nS M)) (by with_unfolding_all rfl)).trans ?_
  exact eq_call2 (e := (.invokestatic 359, 3, 1, 296, 65)) (as := [.int 8, .int 8]) (r := [.int 0, .ref 26, .int 0, .ref 135]) (n := 2) (m := 2) (by with_unfolding_all rfl) rfl (by decide) (by with_unfolding_all rfl) (by decide) (by with_unfolding_all rfl) ⟨fun z => absurd z (by decide), fun z => by simp at z⟩
-- b_131i138_11: copy
theorem k_135_26 {d nS : Nat} {M : am_M} {Q : Option Value → am_H → Prop} : am_Wp (d + 1) 131 0 [.ref 135, .ref 26] [] (hp nS M) Q = Q none (hp nS (am_row M 26 (va_cpy (M 135) (M 26) 0 0 8))) := by
  rw [b_131i138_0, c_296, am_ans_some, show (if (8 : Int32) < 8 then (8 : Int32) else 8) = 8 from rfl]
  refine (eq_copy2 (e := (.invokestatic 362, 3, 6, 0, 66)) (na := 8) (nb := 8) (by with_unfolding_all rfl) rfl rfl (by with_unfolding_all rfl) (by with_unfolding_all rfl) (by decide) (by decide) (by decide) ⟨by decide, by decide, by decide⟩).trans ?_
  exact eq_retV2 (e := (.return_, 1, 0, 0, 0)) (by with_unfolding_all rfl) rfl (by with_unfolding_all rfl)
set_option maxRecDepth 20000 in
theorem b_131i139_0 {d nS : Nat} {M : am_M} {Q : Option Value → am_H → Prop} : am_Wp (d + 1) 131 0 [.ref 136, .ref 27] [] (hp nS M) Q = am_Wp d 296 0 [.int 10, .int 10] [] (hp nS M) (fun v h1 => am_Wp (d + 1) 131 11 [.ref 136, .ref 27] (am_ans v [.int 0, .ref 27, .int 0, .ref 136]) h1 Q) := by
  refine (eq_run 8 (q := (8, [.ref 136, .ref 27], [.int 10, .int 10, .int 0, .ref 27, .int 0, .ref 136], hp nS M)) (by with_unfolding_all rfl)).trans ?_
  exact eq_call2 (e := (.invokestatic 359, 3, 1, 296, 65)) (as := [.int 10, .int 10]) (r := [.int 0, .ref 27, .int 0, .ref 136]) (n := 2) (m := 2) (by with_unfolding_all rfl) rfl (by decide) (by with_unfolding_all rfl) (by decide) (by with_unfolding_all rfl) ⟨fun z => absurd z (by decide), fun z => by simp at z⟩
-- b_131i139_11: copy
theorem k_136_27 {d nS : Nat} {M : am_M} {Q : Option Value → am_H → Prop} : am_Wp (d + 1) 131 0 [.ref 136, .ref 27] [] (hp nS M) Q = Q none (hp nS (am_row M 27 (va_cpy (M 136) (M 27) 0 0 10))) := by
  rw [b_131i139_0, c_296, am_ans_some, show (if (10 : Int32) < 10 then (10 : Int32) else 10) = 10 from rfl]
  refine (eq_copy2 (e := (.invokestatic 362, 3, 6, 0, 66)) (na := 10) (nb := 10) (by with_unfolding_all rfl) rfl rfl (by with_unfolding_all rfl) (by with_unfolding_all rfl) (by decide) (by decide) (by decide) ⟨by decide, by decide, by decide⟩).trans ?_
  exact eq_retV2 (e := (.return_, 1, 0, 0, 0)) (by with_unfolding_all rfl) rfl (by with_unfolding_all rfl)
set_option maxRecDepth 20000 in
theorem b_131i140_0 {d nS : Nat} {M : am_M} {Q : Option Value → am_H → Prop} : am_Wp (d + 1) 131 0 [.ref 137, .ref 28] [] (hp nS M) Q = am_Wp d 296 0 [.int 10, .int 10] [] (hp nS M) (fun v h1 => am_Wp (d + 1) 131 11 [.ref 137, .ref 28] (am_ans v [.int 0, .ref 28, .int 0, .ref 137]) h1 Q) := by
  refine (eq_run 8 (q := (8, [.ref 137, .ref 28], [.int 10, .int 10, .int 0, .ref 28, .int 0, .ref 137], hp nS M)) (by with_unfolding_all rfl)).trans ?_
  exact eq_call2 (e := (.invokestatic 359, 3, 1, 296, 65)) (as := [.int 10, .int 10]) (r := [.int 0, .ref 28, .int 0, .ref 137]) (n := 2) (m := 2) (by with_unfolding_all rfl) rfl (by decide) (by with_unfolding_all rfl) (by decide) (by with_unfolding_all rfl) ⟨fun z => absurd z (by decide), fun z => by simp at z⟩
-- b_131i140_11: copy
theorem k_137_28 {d nS : Nat} {M : am_M} {Q : Option Value → am_H → Prop} : am_Wp (d + 1) 131 0 [.ref 137, .ref 28] [] (hp nS M) Q = Q none (hp nS (am_row M 28 (va_cpy (M 137) (M 28) 0 0 10))) := by
  rw [b_131i140_0, c_296, am_ans_some, show (if (10 : Int32) < 10 then (10 : Int32) else 10) = 10 from rfl]
  refine (eq_copy2 (e := (.invokestatic 362, 3, 6, 0, 66)) (na := 10) (nb := 10) (by with_unfolding_all rfl) rfl rfl (by with_unfolding_all rfl) (by with_unfolding_all rfl) (by decide) (by decide) (by decide) ⟨by decide, by decide, by decide⟩).trans ?_
  exact eq_retV2 (e := (.return_, 1, 0, 0, 0)) (by with_unfolding_all rfl) rfl (by with_unfolding_all rfl)
set_option maxRecDepth 20000 in
theorem b_131i141_0 {d nS : Nat} {M : am_M} {Q : Option Value → am_H → Prop} : am_Wp (d + 1) 131 0 [.ref 138, .ref 29] [] (hp nS M) Q = am_Wp d 296 0 [.int 80, .int 80] [] (hp nS M) (fun v h1 => am_Wp (d + 1) 131 11 [.ref 138, .ref 29] (am_ans v [.int 0, .ref 29, .int 0, .ref 138]) h1 Q) := by
  refine (eq_run 8 (q := (8, [.ref 138, .ref 29], [.int 80, .int 80, .int 0, .ref 29, .int 0, .ref 138], hp nS M)) (by with_unfolding_all rfl)).trans ?_
  exact eq_call2 (e := (.invokestatic 359, 3, 1, 296, 65)) (as := [.int 80, .int 80]) (r := [.int 0, .ref 29, .int 0, .ref 138]) (n := 2) (m := 2) (by with_unfolding_all rfl) rfl (by decide) (by with_unfolding_all rfl) (by decide) (by with_unfolding_all rfl) ⟨fun z => absurd z (by decide), fun z => by simp at z⟩
-- b_131i141_11: copy
theorem k_138_29 {d nS : Nat} {M : am_M} {Q : Option Value → am_H → Prop} : am_Wp (d + 1) 131 0 [.ref 138, .ref 29] [] (hp nS M) Q = Q none (hp nS (am_row M 29 (va_cpy (M 138) (M 29) 0 0 80))) := by
  rw [b_131i141_0, c_296, am_ans_some, show (if (80 : Int32) < 80 then (80 : Int32) else 80) = 80 from rfl]
  refine (eq_copy2 (e := (.invokestatic 362, 3, 6, 0, 66)) (na := 80) (nb := 80) (by with_unfolding_all rfl) rfl rfl (by with_unfolding_all rfl) (by with_unfolding_all rfl) (by decide) (by decide) (by decide) ⟨by decide, by decide, by decide⟩).trans ?_
  exact eq_retV2 (e := (.return_, 1, 0, 0, 0)) (by with_unfolding_all rfl) rfl (by with_unfolding_all rfl)
set_option maxRecDepth 20000 in
theorem b_131i142_0 {d nS : Nat} {M : am_M} {Q : Option Value → am_H → Prop} : am_Wp (d + 1) 131 0 [.ref 116, .ref 19] [] (hp nS M) Q = am_Wp d 296 0 [.int 6, .int 6] [] (hp nS M) (fun v h1 => am_Wp (d + 1) 131 11 [.ref 116, .ref 19] (am_ans v [.int 0, .ref 19, .int 0, .ref 116]) h1 Q) := by
  refine (eq_run 8 (q := (8, [.ref 116, .ref 19], [.int 6, .int 6, .int 0, .ref 19, .int 0, .ref 116], hp nS M)) (by with_unfolding_all rfl)).trans ?_
  exact eq_call2 (e := (.invokestatic 359, 3, 1, 296, 65)) (as := [.int 6, .int 6]) (r := [.int 0, .ref 19, .int 0, .ref 116]) (n := 2) (m := 2) (by with_unfolding_all rfl) rfl (by decide) (by with_unfolding_all rfl) (by decide) (by with_unfolding_all rfl) ⟨fun z => absurd z (by decide), fun z => by simp at z⟩
-- b_131i142_11: copy
theorem k_116_19 {d nS : Nat} {M : am_M} {Q : Option Value → am_H → Prop} : am_Wp (d + 1) 131 0 [.ref 116, .ref 19] [] (hp nS M) Q = Q none (hp nS (am_row M 19 (va_cpy (M 116) (M 19) 0 0 6))) := by
  rw [b_131i142_0, c_296, am_ans_some, show (if (6 : Int32) < 6 then (6 : Int32) else 6) = 6 from rfl]
  refine (eq_copy2 (e := (.invokestatic 362, 3, 6, 0, 66)) (na := 6) (nb := 6) (by with_unfolding_all rfl) rfl rfl (by with_unfolding_all rfl) (by with_unfolding_all rfl) (by decide) (by decide) (by decide) ⟨by decide, by decide, by decide⟩).trans ?_
  exact eq_retV2 (e := (.return_, 1, 0, 0, 0)) (by with_unfolding_all rfl) rfl (by with_unfolding_all rfl)
set_option maxRecDepth 20000 in
theorem b_131i143_0 {d nS : Nat} {M : am_M} {Q : Option Value → am_H → Prop} : am_Wp (d + 1) 131 0 [.ref 117, .ref 20] [] (hp nS M) Q = am_Wp d 296 0 [.int 6, .int 6] [] (hp nS M) (fun v h1 => am_Wp (d + 1) 131 11 [.ref 117, .ref 20] (am_ans v [.int 0, .ref 20, .int 0, .ref 117]) h1 Q) := by
  refine (eq_run 8 (q := (8, [.ref 117, .ref 20], [.int 6, .int 6, .int 0, .ref 20, .int 0, .ref 117], hp nS M)) (by with_unfolding_all rfl)).trans ?_
  exact eq_call2 (e := (.invokestatic 359, 3, 1, 296, 65)) (as := [.int 6, .int 6]) (r := [.int 0, .ref 20, .int 0, .ref 117]) (n := 2) (m := 2) (by with_unfolding_all rfl) rfl (by decide) (by with_unfolding_all rfl) (by decide) (by with_unfolding_all rfl) ⟨fun z => absurd z (by decide), fun z => by simp at z⟩
-- b_131i143_11: copy
theorem k_117_20 {d nS : Nat} {M : am_M} {Q : Option Value → am_H → Prop} : am_Wp (d + 1) 131 0 [.ref 117, .ref 20] [] (hp nS M) Q = Q none (hp nS (am_row M 20 (va_cpy (M 117) (M 20) 0 0 6))) := by
  rw [b_131i143_0, c_296, am_ans_some, show (if (6 : Int32) < 6 then (6 : Int32) else 6) = 6 from rfl]
  refine (eq_copy2 (e := (.invokestatic 362, 3, 6, 0, 66)) (na := 6) (nb := 6) (by with_unfolding_all rfl) rfl rfl (by with_unfolding_all rfl) (by with_unfolding_all rfl) (by decide) (by decide) (by decide) ⟨by decide, by decide, by decide⟩).trans ?_
  exact eq_retV2 (e := (.return_, 1, 0, 0, 0)) (by with_unfolding_all rfl) rfl (by with_unfolding_all rfl)
set_option maxRecDepth 20000 in
theorem b_131i144_0 {d nS : Nat} {M : am_M} {Q : Option Value → am_H → Prop} : am_Wp (d + 1) 131 0 [.ref 118, .ref 21] [] (hp nS M) Q = am_Wp d 296 0 [.int 6, .int 6] [] (hp nS M) (fun v h1 => am_Wp (d + 1) 131 11 [.ref 118, .ref 21] (am_ans v [.int 0, .ref 21, .int 0, .ref 118]) h1 Q) := by
  refine (eq_run 8 (q := (8, [.ref 118, .ref 21], [.int 6, .int 6, .int 0, .ref 21, .int 0, .ref 118], hp nS M)) (by with_unfolding_all rfl)).trans ?_
  exact eq_call2 (e := (.invokestatic 359, 3, 1, 296, 65)) (as := [.int 6, .int 6]) (r := [.int 0, .ref 21, .int 0, .ref 118]) (n := 2) (m := 2) (by with_unfolding_all rfl) rfl (by decide) (by with_unfolding_all rfl) (by decide) (by with_unfolding_all rfl) ⟨fun z => absurd z (by decide), fun z => by simp at z⟩
-- b_131i144_11: copy
theorem k_118_21 {d nS : Nat} {M : am_M} {Q : Option Value → am_H → Prop} : am_Wp (d + 1) 131 0 [.ref 118, .ref 21] [] (hp nS M) Q = Q none (hp nS (am_row M 21 (va_cpy (M 118) (M 21) 0 0 6))) := by
  rw [b_131i144_0, c_296, am_ans_some, show (if (6 : Int32) < 6 then (6 : Int32) else 6) = 6 from rfl]
  refine (eq_copy2 (e := (.invokestatic 362, 3, 6, 0, 66)) (na := 6) (nb := 6) (by with_unfolding_all rfl) rfl rfl (by with_unfolding_all rfl) (by with_unfolding_all rfl) (by decide) (by decide) (by decide) ⟨by decide, by decide, by decide⟩).trans ?_
  exact eq_retV2 (e := (.return_, 1, 0, 0, 0)) (by with_unfolding_all rfl) rfl (by with_unfolding_all rfl)
set_option maxRecDepth 20000 in
theorem b_131i145_0 {d nS : Nat} {M : am_M} {Q : Option Value → am_H → Prop} : am_Wp (d + 1) 131 0 [.ref 119, .ref 22] [] (hp nS M) Q = am_Wp d 296 0 [.int 6, .int 6] [] (hp nS M) (fun v h1 => am_Wp (d + 1) 131 11 [.ref 119, .ref 22] (am_ans v [.int 0, .ref 22, .int 0, .ref 119]) h1 Q) := by
  refine (eq_run 8 (q := (8, [.ref 119, .ref 22], [.int 6, .int 6, .int 0, .ref 22, .int 0, .ref 119], hp nS M)) (by with_unfolding_all rfl)).trans ?_
  exact eq_call2 (e := (.invokestatic 359, 3, 1, 296, 65)) (as := [.int 6, .int 6]) (r := [.int 0, .ref 22, .int 0, .ref 119]) (n := 2) (m := 2) (by with_unfolding_all rfl) rfl (by decide) (by with_unfolding_all rfl) (by decide) (by with_unfolding_all rfl) ⟨fun z => absurd z (by decide), fun z => by simp at z⟩
-- b_131i145_11: copy
theorem k_119_22 {d nS : Nat} {M : am_M} {Q : Option Value → am_H → Prop} : am_Wp (d + 1) 131 0 [.ref 119, .ref 22] [] (hp nS M) Q = Q none (hp nS (am_row M 22 (va_cpy (M 119) (M 22) 0 0 6))) := by
  rw [b_131i145_0, c_296, am_ans_some, show (if (6 : Int32) < 6 then (6 : Int32) else 6) = 6 from rfl]
  refine (eq_copy2 (e := (.invokestatic 362, 3, 6, 0, 66)) (na := 6) (nb := 6) (by with_unfolding_all rfl) rfl rfl (by with_unfolding_all rfl) (by with_unfolding_all rfl) (by decide) (by decide) (by decide) ⟨by decide, by decide, by decide⟩).trans ?_
  exact eq_retV2 (e := (.return_, 1, 0, 0, 0)) (by with_unfolding_all rfl) rfl (by with_unfolding_all rfl)
set_option maxRecDepth 20000 in
theorem b_131i146_0 {d nS : Nat} {M : am_M} {Q : Option Value → am_H → Prop} : am_Wp (d + 1) 131 0 [.ref 120, .ref 23] [] (hp nS M) Q = am_Wp d 296 0 [.int 6, .int 6] [] (hp nS M) (fun v h1 => am_Wp (d + 1) 131 11 [.ref 120, .ref 23] (am_ans v [.int 0, .ref 23, .int 0, .ref 120]) h1 Q) := by
  refine (eq_run 8 (q := (8, [.ref 120, .ref 23], [.int 6, .int 6, .int 0, .ref 23, .int 0, .ref 120], hp nS M)) (by with_unfolding_all rfl)).trans ?_
  exact eq_call2 (e := (.invokestatic 359, 3, 1, 296, 65)) (as := [.int 6, .int 6]) (r := [.int 0, .ref 23, .int 0, .ref 120]) (n := 2) (m := 2) (by with_unfolding_all rfl) rfl (by decide) (by with_unfolding_all rfl) (by decide) (by with_unfolding_all rfl) ⟨fun z => absurd z (by decide), fun z => by simp at z⟩
-- b_131i146_11: copy
theorem k_120_23 {d nS : Nat} {M : am_M} {Q : Option Value → am_H → Prop} : am_Wp (d + 1) 131 0 [.ref 120, .ref 23] [] (hp nS M) Q = Q none (hp nS (am_row M 23 (va_cpy (M 120) (M 23) 0 0 6))) := by
  rw [b_131i146_0, c_296, am_ans_some, show (if (6 : Int32) < 6 then (6 : Int32) else 6) = 6 from rfl]
  refine (eq_copy2 (e := (.invokestatic 362, 3, 6, 0, 66)) (na := 6) (nb := 6) (by with_unfolding_all rfl) rfl rfl (by with_unfolding_all rfl) (by with_unfolding_all rfl) (by decide) (by decide) (by decide) ⟨by decide, by decide, by decide⟩).trans ?_
  exact eq_retV2 (e := (.return_, 1, 0, 0, 0)) (by with_unfolding_all rfl) rfl (by with_unfolding_all rfl)
set_option maxRecDepth 20000 in
theorem b_131i147_0 {d nS : Nat} {M : am_M} {Q : Option Value → am_H → Prop} : am_Wp (d + 1) 131 0 [.ref 121, .ref 24] [] (hp nS M) Q = am_Wp d 296 0 [.int 8, .int 8] [] (hp nS M) (fun v h1 => am_Wp (d + 1) 131 11 [.ref 121, .ref 24] (am_ans v [.int 0, .ref 24, .int 0, .ref 121]) h1 Q) := by
  refine (eq_run 8 (q := (8, [.ref 121, .ref 24], [.int 8, .int 8, .int 0, .ref 24, .int 0, .ref 121], hp nS M)) (by with_unfolding_all rfl)).trans ?_
  exact eq_call2 (e := (.invokestatic 359, 3, 1, 296, 65)) (as := [.int 8, .int 8]) (r := [.int 0, .ref 24, .int 0, .ref 121]) (n := 2) (m := 2) (by with_unfolding_all rfl) rfl (by decide) (by with_unfolding_all rfl) (by decide) (by with_unfolding_all rfl) ⟨fun z => absurd z (by decide), fun z => by simp at z⟩
-- b_131i147_11: copy
theorem k_121_24 {d nS : Nat} {M : am_M} {Q : Option Value → am_H → Prop} : am_Wp (d + 1) 131 0 [.ref 121, .ref 24] [] (hp nS M) Q = Q none (hp nS (am_row M 24 (va_cpy (M 121) (M 24) 0 0 8))) := by
  rw [b_131i147_0, c_296, am_ans_some, show (if (8 : Int32) < 8 then (8 : Int32) else 8) = 8 from rfl]
  refine (eq_copy2 (e := (.invokestatic 362, 3, 6, 0, 66)) (na := 8) (nb := 8) (by with_unfolding_all rfl) rfl rfl (by with_unfolding_all rfl) (by with_unfolding_all rfl) (by decide) (by decide) (by decide) ⟨by decide, by decide, by decide⟩).trans ?_
  exact eq_retV2 (e := (.return_, 1, 0, 0, 0)) (by with_unfolding_all rfl) rfl (by with_unfolding_all rfl)
set_option maxRecDepth 20000 in
theorem b_131i148_0 {d nS : Nat} {M : am_M} {Q : Option Value → am_H → Prop} : am_Wp (d + 1) 131 0 [.ref 122, .ref 25] [] (hp nS M) Q = am_Wp d 296 0 [.int 8, .int 8] [] (hp nS M) (fun v h1 => am_Wp (d + 1) 131 11 [.ref 122, .ref 25] (am_ans v [.int 0, .ref 25, .int 0, .ref 122]) h1 Q) := by
  refine (eq_run 8 (q := (8, [.ref 122, .ref 25], [.int 8, .int 8, .int 0, .ref 25, .int 0, .ref 122], hp nS M)) (by with_unfolding_all rfl)).trans ?_
  exact eq_call2 (e := (.invokestatic 359, 3, 1, 296, 65)) (as := [.int 8, .int 8]) (r := [.int 0, .ref 25, .int 0, .ref 122]) (n := 2) (m := 2) (by with_unfolding_all rfl) rfl (by decide) (by with_unfolding_all rfl) (by decide) (by with_unfolding_all rfl) ⟨fun z => absurd z (by decide), fun z => by simp at z⟩
-- b_131i148_11: copy
theorem k_122_25 {d nS : Nat} {M : am_M} {Q : Option Value → am_H → Prop} : am_Wp (d + 1) 131 0 [.ref 122, .ref 25] [] (hp nS M) Q = Q none (hp nS (am_row M 25 (va_cpy (M 122) (M 25) 0 0 8))) := by
  rw [b_131i148_0, c_296, am_ans_some, show (if (8 : Int32) < 8 then (8 : Int32) else 8) = 8 from rfl]
  refine (eq_copy2 (e := (.invokestatic 362, 3, 6, 0, 66)) (na := 8) (nb := 8) (by with_unfolding_all rfl) rfl rfl (by with_unfolding_all rfl) (by with_unfolding_all rfl) (by decide) (by decide) (by decide) ⟨by decide, by decide, by decide⟩).trans ?_
  exact eq_retV2 (e := (.return_, 1, 0, 0, 0)) (by with_unfolding_all rfl) rfl (by with_unfolding_all rfl)
set_option maxRecDepth 20000 in
theorem b_131i149_0 {d nS : Nat} {M : am_M} {Q : Option Value → am_H → Prop} : am_Wp (d + 1) 131 0 [.ref 123, .ref 26] [] (hp nS M) Q = am_Wp d 296 0 [.int 8, .int 8] [] (hp nS M) (fun v h1 => am_Wp (d + 1) 131 11 [.ref 123, .ref 26] (am_ans v [.int 0, .ref 26, .int 0, .ref 123]) h1 Q) := by
  refine (eq_run 8 (q := (8, [.ref 123, .ref 26], [.int 8, .int 8, .int 0, .ref 26, .int 0, .ref 123], hp nS M)) (by with_unfolding_all rfl)).trans ?_
  exact eq_call2 (e := (.invokestatic 359, 3, 1, 296, 65)) (as := [.int 8, .int 8]) (r := [.int 0, .ref 26, .int 0, .ref 123]) (n := 2) (m := 2) (by with_unfolding_all rfl) rfl (by decide) (by with_unfolding_all rfl) (by decide) (by with_unfolding_all rfl) ⟨fun z => absurd z (by decide), fun z => by simp at z⟩
-- b_131i149_11: copy
theorem k_123_26 {d nS : Nat} {M : am_M} {Q : Option Value → am_H → Prop} : am_Wp (d + 1) 131 0 [.ref 123, .ref 26] [] (hp nS M) Q = Q none (hp nS (am_row M 26 (va_cpy (M 123) (M 26) 0 0 8))) := by
  rw [b_131i149_0, c_296, am_ans_some, show (if (8 : Int32) < 8 then (8 : Int32) else 8) = 8 from rfl]
  refine (eq_copy2 (e := (.invokestatic 362, 3, 6, 0, 66)) (na := 8) (nb := 8) (by with_unfolding_all rfl) rfl rfl (by with_unfolding_all rfl) (by with_unfolding_all rfl) (by decide) (by decide) (by decide) ⟨by decide, by decide, by decide⟩).trans ?_
  exact eq_retV2 (e := (.return_, 1, 0, 0, 0)) (by with_unfolding_all rfl) rfl (by with_unfolding_all rfl)
set_option maxRecDepth 20000 in
theorem b_131i150_0 {d nS : Nat} {M : am_M} {Q : Option Value → am_H → Prop} : am_Wp (d + 1) 131 0 [.ref 124, .ref 27] [] (hp nS M) Q = am_Wp d 296 0 [.int 10, .int 10] [] (hp nS M) (fun v h1 => am_Wp (d + 1) 131 11 [.ref 124, .ref 27] (am_ans v [.int 0, .ref 27, .int 0, .ref 124]) h1 Q) := by
  refine (eq_run 8 (q := (8, [.ref 124, .ref 27], [.int 10, .int 10, .int 0, .ref 27, .int 0, .ref 124], hp nS M)) (by with_unfolding_all rfl)).trans ?_
  exact eq_call2 (e := (.invokestatic 359, 3, 1, 296, 65)) (as := [.int 10, .int 10]) (r := [.int 0, .ref 27, .int 0, .ref 124]) (n := 2) (m := 2) (by with_unfolding_all rfl) rfl (by decide) (by with_unfolding_all rfl) (by decide) (by with_unfolding_all rfl) ⟨fun z => absurd z (by decide), fun z => by simp at z⟩
-- b_131i150_11: copy
theorem k_124_27 {d nS : Nat} {M : am_M} {Q : Option Value → am_H → Prop} : am_Wp (d + 1) 131 0 [.ref 124, .ref 27] [] (hp nS M) Q = Q none (hp nS (am_row M 27 (va_cpy (M 124) (M 27) 0 0 10))) := by
  rw [b_131i150_0, c_296, am_ans_some, show (if (10 : Int32) < 10 then (10 : Int32) else 10) = 10 from rfl]
  refine (eq_copy2 (e := (.invokestatic 362, 3, 6, 0, 66)) (na := 10) (nb := 10) (by with_unfolding_all rfl) rfl rfl (by with_unfolding_all rfl) (by with_unfolding_all rfl) (by decide) (by decide) (by decide) ⟨by decide, by decide, by decide⟩).trans ?_
  exact eq_retV2 (e := (.return_, 1, 0, 0, 0)) (by with_unfolding_all rfl) rfl (by with_unfolding_all rfl)
set_option maxRecDepth 20000 in
theorem b_131i151_0 {d nS : Nat} {M : am_M} {Q : Option Value → am_H → Prop} : am_Wp (d + 1) 131 0 [.ref 125, .ref 28] [] (hp nS M) Q = am_Wp d 296 0 [.int 10, .int 10] [] (hp nS M) (fun v h1 => am_Wp (d + 1) 131 11 [.ref 125, .ref 28] (am_ans v [.int 0, .ref 28, .int 0, .ref 125]) h1 Q) := by
  refine (eq_run 8 (q := (8, [.ref 125, .ref 28], [.int 10, .int 10, .int 0, .ref 28, .int 0, .ref 125], hp nS M)) (by with_unfolding_all rfl)).trans ?_
  exact eq_call2 (e := (.invokestatic 359, 3, 1, 296, 65)) (as := [.int 10, .int 10]) (r := [.int 0, .ref 28, .int 0, .ref 125]) (n := 2) (m := 2) (by with_unfolding_all rfl) rfl (by decide) (by with_unfolding_all rfl) (by decide) (by with_unfolding_all rfl) ⟨fun z => absurd z (by decide), fun z => by simp at z⟩
-- b_131i151_11: copy
theorem k_125_28 {d nS : Nat} {M : am_M} {Q : Option Value → am_H → Prop} : am_Wp (d + 1) 131 0 [.ref 125, .ref 28] [] (hp nS M) Q = Q none (hp nS (am_row M 28 (va_cpy (M 125) (M 28) 0 0 10))) := by
  rw [b_131i151_0, c_296, am_ans_some, show (if (10 : Int32) < 10 then (10 : Int32) else 10) = 10 from rfl]
  refine (eq_copy2 (e := (.invokestatic 362, 3, 6, 0, 66)) (na := 10) (nb := 10) (by with_unfolding_all rfl) rfl rfl (by with_unfolding_all rfl) (by with_unfolding_all rfl) (by decide) (by decide) (by decide) ⟨by decide, by decide, by decide⟩).trans ?_
  exact eq_retV2 (e := (.return_, 1, 0, 0, 0)) (by with_unfolding_all rfl) rfl (by with_unfolding_all rfl)
set_option maxRecDepth 20000 in
theorem b_131i152_0 {d nS : Nat} {M : am_M} {Q : Option Value → am_H → Prop} : am_Wp (d + 1) 131 0 [.ref 126, .ref 29] [] (hp nS M) Q = am_Wp d 296 0 [.int 80, .int 80] [] (hp nS M) (fun v h1 => am_Wp (d + 1) 131 11 [.ref 126, .ref 29] (am_ans v [.int 0, .ref 29, .int 0, .ref 126]) h1 Q) := by
  refine (eq_run 8 (q := (8, [.ref 126, .ref 29], [.int 80, .int 80, .int 0, .ref 29, .int 0, .ref 126], hp nS M)) (by with_unfolding_all rfl)).trans ?_
  exact eq_call2 (e := (.invokestatic 359, 3, 1, 296, 65)) (as := [.int 80, .int 80]) (r := [.int 0, .ref 29, .int 0, .ref 126]) (n := 2) (m := 2) (by with_unfolding_all rfl) rfl (by decide) (by with_unfolding_all rfl) (by decide) (by with_unfolding_all rfl) ⟨fun z => absurd z (by decide), fun z => by simp at z⟩
-- b_131i152_11: copy
theorem k_126_29 {d nS : Nat} {M : am_M} {Q : Option Value → am_H → Prop} : am_Wp (d + 1) 131 0 [.ref 126, .ref 29] [] (hp nS M) Q = Q none (hp nS (am_row M 29 (va_cpy (M 126) (M 29) 0 0 80))) := by
  rw [b_131i152_0, c_296, am_ans_some, show (if (80 : Int32) < 80 then (80 : Int32) else 80) = 80 from rfl]
  refine (eq_copy2 (e := (.invokestatic 362, 3, 6, 0, 66)) (na := 80) (nb := 80) (by with_unfolding_all rfl) rfl rfl (by with_unfolding_all rfl) (by with_unfolding_all rfl) (by decide) (by decide) (by decide) ⟨by decide, by decide, by decide⟩).trans ?_
  exact eq_retV2 (e := (.return_, 1, 0, 0, 0)) (by with_unfolding_all rfl) rfl (by with_unfolding_all rfl)
set_option maxRecDepth 20000 in
theorem b_131i153_0 {d nS : Nat} {M : am_M} {Q : Option Value → am_H → Prop} : am_Wp (d + 1) 131 0 [.ref 19, .ref 61] [] (hp nS M) Q = am_Wp d 296 0 [.int 6, .int 6] [] (hp nS M) (fun v h1 => am_Wp (d + 1) 131 11 [.ref 19, .ref 61] (am_ans v [.int 0, .ref 61, .int 0, .ref 19]) h1 Q) := by
  refine (eq_run 8 (q := (8, [.ref 19, .ref 61], [.int 6, .int 6, .int 0, .ref 61, .int 0, .ref 19], hp nS M)) (by with_unfolding_all rfl)).trans ?_
  exact eq_call2 (e := (.invokestatic 359, 3, 1, 296, 65)) (as := [.int 6, .int 6]) (r := [.int 0, .ref 61, .int 0, .ref 19]) (n := 2) (m := 2) (by with_unfolding_all rfl) rfl (by decide) (by with_unfolding_all rfl) (by decide) (by with_unfolding_all rfl) ⟨fun z => absurd z (by decide), fun z => by simp at z⟩
-- b_131i153_11: copy
theorem k_19_61 {d nS : Nat} {M : am_M} {Q : Option Value → am_H → Prop} : am_Wp (d + 1) 131 0 [.ref 19, .ref 61] [] (hp nS M) Q = Q none (hp nS (am_row M 61 (va_cpy (M 19) (M 61) 0 0 6))) := by
  rw [b_131i153_0, c_296, am_ans_some, show (if (6 : Int32) < 6 then (6 : Int32) else 6) = 6 from rfl]
  refine (eq_copy2 (e := (.invokestatic 362, 3, 6, 0, 66)) (na := 6) (nb := 6) (by with_unfolding_all rfl) rfl rfl (by with_unfolding_all rfl) (by with_unfolding_all rfl) (by decide) (by decide) (by decide) ⟨by decide, by decide, by decide⟩).trans ?_
  exact eq_retV2 (e := (.return_, 1, 0, 0, 0)) (by with_unfolding_all rfl) rfl (by with_unfolding_all rfl)
set_option maxRecDepth 20000 in
theorem b_131i154_0 {d nS : Nat} {M : am_M} {Q : Option Value → am_H → Prop} : am_Wp (d + 1) 131 0 [.ref 20, .ref 62] [] (hp nS M) Q = am_Wp d 296 0 [.int 6, .int 6] [] (hp nS M) (fun v h1 => am_Wp (d + 1) 131 11 [.ref 20, .ref 62] (am_ans v [.int 0, .ref 62, .int 0, .ref 20]) h1 Q) := by
  refine (eq_run 8 (q := (8, [.ref 20, .ref 62], [.int 6, .int 6, .int 0, .ref 62, .int 0, .ref 20], hp nS M)) (by with_unfolding_all rfl)).trans ?_
  exact eq_call2 (e := (.invokestatic 359, 3, 1, 296, 65)) (as := [.int 6, .int 6]) (r := [.int 0, .ref 62, .int 0, .ref 20]) (n := 2) (m := 2) (by with_unfolding_all rfl) rfl (by decide) (by with_unfolding_all rfl) (by decide) (by with_unfolding_all rfl) ⟨fun z => absurd z (by decide), fun z => by simp at z⟩
-- b_131i154_11: copy
theorem k_20_62 {d nS : Nat} {M : am_M} {Q : Option Value → am_H → Prop} : am_Wp (d + 1) 131 0 [.ref 20, .ref 62] [] (hp nS M) Q = Q none (hp nS (am_row M 62 (va_cpy (M 20) (M 62) 0 0 6))) := by
  rw [b_131i154_0, c_296, am_ans_some, show (if (6 : Int32) < 6 then (6 : Int32) else 6) = 6 from rfl]
  refine (eq_copy2 (e := (.invokestatic 362, 3, 6, 0, 66)) (na := 6) (nb := 6) (by with_unfolding_all rfl) rfl rfl (by with_unfolding_all rfl) (by with_unfolding_all rfl) (by decide) (by decide) (by decide) ⟨by decide, by decide, by decide⟩).trans ?_
  exact eq_retV2 (e := (.return_, 1, 0, 0, 0)) (by with_unfolding_all rfl) rfl (by with_unfolding_all rfl)
set_option maxRecDepth 20000 in
theorem b_131i155_0 {d nS : Nat} {M : am_M} {Q : Option Value → am_H → Prop} : am_Wp (d + 1) 131 0 [.ref 21, .ref 63] [] (hp nS M) Q = am_Wp d 296 0 [.int 6, .int 6] [] (hp nS M) (fun v h1 => am_Wp (d + 1) 131 11 [.ref 21, .ref 63] (am_ans v [.int 0, .ref 63, .int 0, .ref 21]) h1 Q) := by
  refine (eq_run 8 (q := (8, [.ref 21, .ref 63], [.int 6, .int 6, .int 0, .ref 63, .int 0, .ref 21], hp nS M)) (by with_unfolding_all rfl)).trans ?_
  exact eq_call2 (e := (.invokestatic 359, 3, 1, 296, 65)) (as := [.int 6, .int 6]) (r := [.int 0, .ref 63, .int 0, .ref 21]) (n := 2) (m := 2) (by with_unfolding_all rfl) rfl (by decide) (by with_unfolding_all rfl) (by decide) (by with_unfolding_all rfl) ⟨fun z => absurd z (by decide), fun z => by simp at z⟩
-- b_131i155_11: copy
theorem k_21_63 {d nS : Nat} {M : am_M} {Q : Option Value → am_H → Prop} : am_Wp (d + 1) 131 0 [.ref 21, .ref 63] [] (hp nS M) Q = Q none (hp nS (am_row M 63 (va_cpy (M 21) (M 63) 0 0 6))) := by
  rw [b_131i155_0, c_296, am_ans_some, show (if (6 : Int32) < 6 then (6 : Int32) else 6) = 6 from rfl]
  refine (eq_copy2 (e := (.invokestatic 362, 3, 6, 0, 66)) (na := 6) (nb := 6) (by with_unfolding_all rfl) rfl rfl (by with_unfolding_all rfl) (by with_unfolding_all rfl) (by decide) (by decide) (by decide) ⟨by decide, by decide, by decide⟩).trans ?_
  exact eq_retV2 (e := (.return_, 1, 0, 0, 0)) (by with_unfolding_all rfl) rfl (by with_unfolding_all rfl)
set_option maxRecDepth 20000 in
theorem b_131i156_0 {d nS : Nat} {M : am_M} {Q : Option Value → am_H → Prop} : am_Wp (d + 1) 131 0 [.ref 22, .ref 64] [] (hp nS M) Q = am_Wp d 296 0 [.int 6, .int 6] [] (hp nS M) (fun v h1 => am_Wp (d + 1) 131 11 [.ref 22, .ref 64] (am_ans v [.int 0, .ref 64, .int 0, .ref 22]) h1 Q) := by
  refine (eq_run 8 (q := (8, [.ref 22, .ref 64], [.int 6, .int 6, .int 0, .ref 64, .int 0, .ref 22], hp nS M)) (by with_unfolding_all rfl)).trans ?_
  exact eq_call2 (e := (.invokestatic 359, 3, 1, 296, 65)) (as := [.int 6, .int 6]) (r := [.int 0, .ref 64, .int 0, .ref 22]) (n := 2) (m := 2) (by with_unfolding_all rfl) rfl (by decide) (by with_unfolding_all rfl) (by decide) (by with_unfolding_all rfl) ⟨fun z => absurd z (by decide), fun z => by simp at z⟩
-- b_131i156_11: copy
theorem k_22_64 {d nS : Nat} {M : am_M} {Q : Option Value → am_H → Prop} : am_Wp (d + 1) 131 0 [.ref 22, .ref 64] [] (hp nS M) Q = Q none (hp nS (am_row M 64 (va_cpy (M 22) (M 64) 0 0 6))) := by
  rw [b_131i156_0, c_296, am_ans_some, show (if (6 : Int32) < 6 then (6 : Int32) else 6) = 6 from rfl]
  refine (eq_copy2 (e := (.invokestatic 362, 3, 6, 0, 66)) (na := 6) (nb := 6) (by with_unfolding_all rfl) rfl rfl (by with_unfolding_all rfl) (by with_unfolding_all rfl) (by decide) (by decide) (by decide) ⟨by decide, by decide, by decide⟩).trans ?_
  exact eq_retV2 (e := (.return_, 1, 0, 0, 0)) (by with_unfolding_all rfl) rfl (by with_unfolding_all rfl)
set_option maxRecDepth 20000 in
theorem b_131i157_0 {d nS : Nat} {M : am_M} {Q : Option Value → am_H → Prop} : am_Wp (d + 1) 131 0 [.ref 23, .ref 65] [] (hp nS M) Q = am_Wp d 296 0 [.int 6, .int 6] [] (hp nS M) (fun v h1 => am_Wp (d + 1) 131 11 [.ref 23, .ref 65] (am_ans v [.int 0, .ref 65, .int 0, .ref 23]) h1 Q) := by
  refine (eq_run 8 (q := (8, [.ref 23, .ref 65], [.int 6, .int 6, .int 0, .ref 65, .int 0, .ref 23], hp nS M)) (by with_unfolding_all rfl)).trans ?_
  exact eq_call2 (e := (.invokestatic 359, 3, 1, 296, 65)) (as := [.int 6, .int 6]) (r := [.int 0, .ref 65, .int 0, .ref 23]) (n := 2) (m := 2) (by with_unfolding_all rfl) rfl (by decide) (by with_unfolding_all rfl) (by decide) (by with_unfolding_all rfl) ⟨fun z => absurd z (by decide), fun z => by simp at z⟩
-- b_131i157_11: copy
theorem k_23_65 {d nS : Nat} {M : am_M} {Q : Option Value → am_H → Prop} : am_Wp (d + 1) 131 0 [.ref 23, .ref 65] [] (hp nS M) Q = Q none (hp nS (am_row M 65 (va_cpy (M 23) (M 65) 0 0 6))) := by
  rw [b_131i157_0, c_296, am_ans_some, show (if (6 : Int32) < 6 then (6 : Int32) else 6) = 6 from rfl]
  refine (eq_copy2 (e := (.invokestatic 362, 3, 6, 0, 66)) (na := 6) (nb := 6) (by with_unfolding_all rfl) rfl rfl (by with_unfolding_all rfl) (by with_unfolding_all rfl) (by decide) (by decide) (by decide) ⟨by decide, by decide, by decide⟩).trans ?_
  exact eq_retV2 (e := (.return_, 1, 0, 0, 0)) (by with_unfolding_all rfl) rfl (by with_unfolding_all rfl)
set_option maxRecDepth 20000 in
theorem b_131i158_0 {d nS : Nat} {M : am_M} {Q : Option Value → am_H → Prop} : am_Wp (d + 1) 131 0 [.ref 24, .ref 66] [] (hp nS M) Q = am_Wp d 296 0 [.int 8, .int 8] [] (hp nS M) (fun v h1 => am_Wp (d + 1) 131 11 [.ref 24, .ref 66] (am_ans v [.int 0, .ref 66, .int 0, .ref 24]) h1 Q) := by
  refine (eq_run 8 (q := (8, [.ref 24, .ref 66], [.int 8, .int 8, .int 0, .ref 66, .int 0, .ref 24], hp nS M)) (by with_unfolding_all rfl)).trans ?_
  exact eq_call2 (e := (.invokestatic 359, 3, 1, 296, 65)) (as := [.int 8, .int 8]) (r := [.int 0, .ref 66, .int 0, .ref 24]) (n := 2) (m := 2) (by with_unfolding_all rfl) rfl (by decide) (by with_unfolding_all rfl) (by decide) (by with_unfolding_all rfl) ⟨fun z => absurd z (by decide), fun z => by simp at z⟩
-- b_131i158_11: copy
theorem k_24_66 {d nS : Nat} {M : am_M} {Q : Option Value → am_H → Prop} : am_Wp (d + 1) 131 0 [.ref 24, .ref 66] [] (hp nS M) Q = Q none (hp nS (am_row M 66 (va_cpy (M 24) (M 66) 0 0 8))) := by
  rw [b_131i158_0, c_296, am_ans_some, show (if (8 : Int32) < 8 then (8 : Int32) else 8) = 8 from rfl]
  refine (eq_copy2 (e := (.invokestatic 362, 3, 6, 0, 66)) (na := 8) (nb := 8) (by with_unfolding_all rfl) rfl rfl (by with_unfolding_all rfl) (by with_unfolding_all rfl) (by decide) (by decide) (by decide) ⟨by decide, by decide, by decide⟩).trans ?_
  exact eq_retV2 (e := (.return_, 1, 0, 0, 0)) (by with_unfolding_all rfl) rfl (by with_unfolding_all rfl)
set_option maxRecDepth 20000 in
theorem b_131i159_0 {d nS : Nat} {M : am_M} {Q : Option Value → am_H → Prop} : am_Wp (d + 1) 131 0 [.ref 25, .ref 67] [] (hp nS M) Q = am_Wp d 296 0 [.int 8, .int 8] [] (hp nS M) (fun v h1 => am_Wp (d + 1) 131 11 [.ref 25, .ref 67] (am_ans v [.int 0, .ref 67, .int 0, .ref 25]) h1 Q) := by
  refine (eq_run 8 (q := (8, [.ref 25, .ref 67], [.int 8, .int 8, .int 0, .ref 67, .int 0, .ref 25], hp nS M)) (by with_unfolding_all rfl)).trans ?_
  exact eq_call2 (e := (.invokestatic 359, 3, 1, 296, 65)) (as := [.int 8, .int 8]) (r := [.int 0, .ref 67, .int 0, .ref 25]) (n := 2) (m := 2) (by with_unfolding_all rfl) rfl (by decide) (by with_unfolding_all rfl) (by decide) (by with_unfolding_all rfl) ⟨fun z => absurd z (by decide), fun z => by simp at z⟩
-- b_131i159_11: copy
theorem k_25_67 {d nS : Nat} {M : am_M} {Q : Option Value → am_H → Prop} : am_Wp (d + 1) 131 0 [.ref 25, .ref 67] [] (hp nS M) Q = Q none (hp nS (am_row M 67 (va_cpy (M 25) (M 67) 0 0 8))) := by
  rw [b_131i159_0, c_296, am_ans_some, show (if (8 : Int32) < 8 then (8 : Int32) else 8) = 8 from rfl]
  refine (eq_copy2 (e := (.invokestatic 362, 3, 6, 0, 66)) (na := 8) (nb := 8) (by with_unfolding_all rfl) rfl rfl (by with_unfolding_all rfl) (by with_unfolding_all rfl) (by decide) (by decide) (by decide) ⟨by decide, by decide, by decide⟩).trans ?_
  exact eq_retV2 (e := (.return_, 1, 0, 0, 0)) (by with_unfolding_all rfl) rfl (by with_unfolding_all rfl)
set_option maxRecDepth 20000 in
theorem b_131i160_0 {d nS : Nat} {M : am_M} {Q : Option Value → am_H → Prop} : am_Wp (d + 1) 131 0 [.ref 26, .ref 68] [] (hp nS M) Q = am_Wp d 296 0 [.int 8, .int 8] [] (hp nS M) (fun v h1 => am_Wp (d + 1) 131 11 [.ref 26, .ref 68] (am_ans v [.int 0, .ref 68, .int 0, .ref 26]) h1 Q) := by
  refine (eq_run 8 (q := (8, [.ref 26, .ref 68], [.int 8, .int 8, .int 0, .ref 68, .int 0, .ref 26], hp nS M)) (by with_unfolding_all rfl)).trans ?_
  exact eq_call2 (e := (.invokestatic 359, 3, 1, 296, 65)) (as := [.int 8, .int 8]) (r := [.int 0, .ref 68, .int 0, .ref 26]) (n := 2) (m := 2) (by with_unfolding_all rfl) rfl (by decide) (by with_unfolding_all rfl) (by decide) (by with_unfolding_all rfl) ⟨fun z => absurd z (by decide), fun z => by simp at z⟩
-- b_131i160_11: copy
theorem k_26_68 {d nS : Nat} {M : am_M} {Q : Option Value → am_H → Prop} : am_Wp (d + 1) 131 0 [.ref 26, .ref 68] [] (hp nS M) Q = Q none (hp nS (am_row M 68 (va_cpy (M 26) (M 68) 0 0 8))) := by
  rw [b_131i160_0, c_296, am_ans_some, show (if (8 : Int32) < 8 then (8 : Int32) else 8) = 8 from rfl]
  refine (eq_copy2 (e := (.invokestatic 362, 3, 6, 0, 66)) (na := 8) (nb := 8) (by with_unfolding_all rfl) rfl rfl (by with_unfolding_all rfl) (by with_unfolding_all rfl) (by decide) (by decide) (by decide) ⟨by decide, by decide, by decide⟩).trans ?_
  exact eq_retV2 (e := (.return_, 1, 0, 0, 0)) (by with_unfolding_all rfl) rfl (by with_unfolding_all rfl)
set_option maxRecDepth 20000 in
theorem b_131i161_0 {d nS : Nat} {M : am_M} {Q : Option Value → am_H → Prop} : am_Wp (d + 1) 131 0 [.ref 27, .ref 69] [] (hp nS M) Q = am_Wp d 296 0 [.int 10, .int 10] [] (hp nS M) (fun v h1 => am_Wp (d + 1) 131 11 [.ref 27, .ref 69] (am_ans v [.int 0, .ref 69, .int 0, .ref 27]) h1 Q) := by
  refine (eq_run 8 (q := (8, [.ref 27, .ref 69], [.int 10, .int 10, .int 0, .ref 69, .int 0, .ref 27], hp nS M)) (by with_unfolding_all rfl)).trans ?_
  exact eq_call2 (e := (.invokestatic 359, 3, 1, 296, 65)) (as := [.int 10, .int 10]) (r := [.int 0, .ref 69, .int 0, .ref 27]) (n := 2) (m := 2) (by with_unfolding_all rfl) rfl (by decide) (by with_unfolding_all rfl) (by decide) (by with_unfolding_all rfl) ⟨fun z => absurd z (by decide), fun z => by simp at z⟩
-- b_131i161_11: copy
theorem k_27_69 {d nS : Nat} {M : am_M} {Q : Option Value → am_H → Prop} : am_Wp (d + 1) 131 0 [.ref 27, .ref 69] [] (hp nS M) Q = Q none (hp nS (am_row M 69 (va_cpy (M 27) (M 69) 0 0 10))) := by
  rw [b_131i161_0, c_296, am_ans_some, show (if (10 : Int32) < 10 then (10 : Int32) else 10) = 10 from rfl]
  refine (eq_copy2 (e := (.invokestatic 362, 3, 6, 0, 66)) (na := 10) (nb := 10) (by with_unfolding_all rfl) rfl rfl (by with_unfolding_all rfl) (by with_unfolding_all rfl) (by decide) (by decide) (by decide) ⟨by decide, by decide, by decide⟩).trans ?_
  exact eq_retV2 (e := (.return_, 1, 0, 0, 0)) (by with_unfolding_all rfl) rfl (by with_unfolding_all rfl)
set_option maxRecDepth 20000 in
theorem b_131i162_0 {d nS : Nat} {M : am_M} {Q : Option Value → am_H → Prop} : am_Wp (d + 1) 131 0 [.ref 28, .ref 70] [] (hp nS M) Q = am_Wp d 296 0 [.int 10, .int 10] [] (hp nS M) (fun v h1 => am_Wp (d + 1) 131 11 [.ref 28, .ref 70] (am_ans v [.int 0, .ref 70, .int 0, .ref 28]) h1 Q) := by
  refine (eq_run 8 (q := (8, [.ref 28, .ref 70], [.int 10, .int 10, .int 0, .ref 70, .int 0, .ref 28], hp nS M)) (by with_unfolding_all rfl)).trans ?_
  exact eq_call2 (e := (.invokestatic 359, 3, 1, 296, 65)) (as := [.int 10, .int 10]) (r := [.int 0, .ref 70, .int 0, .ref 28]) (n := 2) (m := 2) (by with_unfolding_all rfl) rfl (by decide) (by with_unfolding_all rfl) (by decide) (by with_unfolding_all rfl) ⟨fun z => absurd z (by decide), fun z => by simp at z⟩
-- b_131i162_11: copy
theorem k_28_70 {d nS : Nat} {M : am_M} {Q : Option Value → am_H → Prop} : am_Wp (d + 1) 131 0 [.ref 28, .ref 70] [] (hp nS M) Q = Q none (hp nS (am_row M 70 (va_cpy (M 28) (M 70) 0 0 10))) := by
  rw [b_131i162_0, c_296, am_ans_some, show (if (10 : Int32) < 10 then (10 : Int32) else 10) = 10 from rfl]
  refine (eq_copy2 (e := (.invokestatic 362, 3, 6, 0, 66)) (na := 10) (nb := 10) (by with_unfolding_all rfl) rfl rfl (by with_unfolding_all rfl) (by with_unfolding_all rfl) (by decide) (by decide) (by decide) ⟨by decide, by decide, by decide⟩).trans ?_
  exact eq_retV2 (e := (.return_, 1, 0, 0, 0)) (by with_unfolding_all rfl) rfl (by with_unfolding_all rfl)
set_option maxRecDepth 20000 in
theorem b_131i163_0 {d nS : Nat} {M : am_M} {Q : Option Value → am_H → Prop} : am_Wp (d + 1) 131 0 [.ref 29, .ref 71] [] (hp nS M) Q = am_Wp d 296 0 [.int 80, .int 80] [] (hp nS M) (fun v h1 => am_Wp (d + 1) 131 11 [.ref 29, .ref 71] (am_ans v [.int 0, .ref 71, .int 0, .ref 29]) h1 Q) := by
  refine (eq_run 8 (q := (8, [.ref 29, .ref 71], [.int 80, .int 80, .int 0, .ref 71, .int 0, .ref 29], hp nS M)) (by with_unfolding_all rfl)).trans ?_
  exact eq_call2 (e := (.invokestatic 359, 3, 1, 296, 65)) (as := [.int 80, .int 80]) (r := [.int 0, .ref 71, .int 0, .ref 29]) (n := 2) (m := 2) (by with_unfolding_all rfl) rfl (by decide) (by with_unfolding_all rfl) (by decide) (by with_unfolding_all rfl) ⟨fun z => absurd z (by decide), fun z => by simp at z⟩
-- b_131i163_11: copy
theorem k_29_71 {d nS : Nat} {M : am_M} {Q : Option Value → am_H → Prop} : am_Wp (d + 1) 131 0 [.ref 29, .ref 71] [] (hp nS M) Q = Q none (hp nS (am_row M 71 (va_cpy (M 29) (M 71) 0 0 80))) := by
  rw [b_131i163_0, c_296, am_ans_some, show (if (80 : Int32) < 80 then (80 : Int32) else 80) = 80 from rfl]
  refine (eq_copy2 (e := (.invokestatic 362, 3, 6, 0, 66)) (na := 80) (nb := 80) (by with_unfolding_all rfl) rfl rfl (by with_unfolding_all rfl) (by with_unfolding_all rfl) (by decide) (by decide) (by decide) ⟨by decide, by decide, by decide⟩).trans ?_
  exact eq_retV2 (e := (.return_, 1, 0, 0, 0)) (by with_unfolding_all rfl) rfl (by with_unfolding_all rfl)
set_option maxRecDepth 20000 in
theorem b_131i164_0 {d nS : Nat} {M : am_M} {Q : Option Value → am_H → Prop} : am_Wp (d + 1) 131 0 [.ref 32, .ref 74] [] (hp nS M) Q = am_Wp d 296 0 [.int 16, .int 16] [] (hp nS M) (fun v h1 => am_Wp (d + 1) 131 11 [.ref 32, .ref 74] (am_ans v [.int 0, .ref 74, .int 0, .ref 32]) h1 Q) := by
  refine (eq_run 8 (q := (8, [.ref 32, .ref 74], [.int 16, .int 16, .int 0, .ref 74, .int 0, .ref 32], hp nS M)) (by with_unfolding_all rfl)).trans ?_
  exact eq_call2 (e := (.invokestatic 359, 3, 1, 296, 65)) (as := [.int 16, .int 16]) (r := [.int 0, .ref 74, .int 0, .ref 32]) (n := 2) (m := 2) (by with_unfolding_all rfl) rfl (by decide) (by with_unfolding_all rfl) (by decide) (by with_unfolding_all rfl) ⟨fun z => absurd z (by decide), fun z => by simp at z⟩
-- b_131i164_11: copy
theorem k_32_74 {d nS : Nat} {M : am_M} {Q : Option Value → am_H → Prop} : am_Wp (d + 1) 131 0 [.ref 32, .ref 74] [] (hp nS M) Q = Q none (hp nS (am_row M 74 (va_cpy (M 32) (M 74) 0 0 16))) := by
  rw [b_131i164_0, c_296, am_ans_some, show (if (16 : Int32) < 16 then (16 : Int32) else 16) = 16 from rfl]
  refine (eq_copy2 (e := (.invokestatic 362, 3, 6, 0, 66)) (na := 16) (nb := 16) (by with_unfolding_all rfl) rfl rfl (by with_unfolding_all rfl) (by with_unfolding_all rfl) (by decide) (by decide) (by decide) ⟨by decide, by decide, by decide⟩).trans ?_
  exact eq_retV2 (e := (.return_, 1, 0, 0, 0)) (by with_unfolding_all rfl) rfl (by with_unfolding_all rfl)
set_option maxRecDepth 20000 in
theorem b_131i165_0 {d nS : Nat} {M : am_M} {Q : Option Value → am_H → Prop} : am_Wp (d + 1) 131 0 [.ref 33, .ref 75] [] (hp nS M) Q = am_Wp d 296 0 [.int 16, .int 16] [] (hp nS M) (fun v h1 => am_Wp (d + 1) 131 11 [.ref 33, .ref 75] (am_ans v [.int 0, .ref 75, .int 0, .ref 33]) h1 Q) := by
  refine (eq_run 8 (q := (8, [.ref 33, .ref 75], [.int 16, .int 16, .int 0, .ref 75, .int 0, .ref 33], hp nS M)) (by with_unfolding_all rfl)).trans ?_
  exact eq_call2 (e := (.invokestatic 359, 3, 1, 296, 65)) (as := [.int 16, .int 16]) (r := [.int 0, .ref 75, .int 0, .ref 33]) (n := 2) (m := 2) (by with_unfolding_all rfl) rfl (by decide) (by with_unfolding_all rfl) (by decide) (by with_unfolding_all rfl) ⟨fun z => absurd z (by decide), fun z => by simp at z⟩
-- b_131i165_11: copy
theorem k_33_75 {d nS : Nat} {M : am_M} {Q : Option Value → am_H → Prop} : am_Wp (d + 1) 131 0 [.ref 33, .ref 75] [] (hp nS M) Q = Q none (hp nS (am_row M 75 (va_cpy (M 33) (M 75) 0 0 16))) := by
  rw [b_131i165_0, c_296, am_ans_some, show (if (16 : Int32) < 16 then (16 : Int32) else 16) = 16 from rfl]
  refine (eq_copy2 (e := (.invokestatic 362, 3, 6, 0, 66)) (na := 16) (nb := 16) (by with_unfolding_all rfl) rfl rfl (by with_unfolding_all rfl) (by with_unfolding_all rfl) (by decide) (by decide) (by decide) ⟨by decide, by decide, by decide⟩).trans ?_
  exact eq_retV2 (e := (.return_, 1, 0, 0, 0)) (by with_unfolding_all rfl) rfl (by with_unfolding_all rfl)
set_option maxRecDepth 20000 in
theorem b_131i166_0 {d nS : Nat} {M : am_M} {Q : Option Value → am_H → Prop} : am_Wp (d + 1) 131 0 [.ref 34, .ref 76] [] (hp nS M) Q = am_Wp d 296 0 [.int 16, .int 16] [] (hp nS M) (fun v h1 => am_Wp (d + 1) 131 11 [.ref 34, .ref 76] (am_ans v [.int 0, .ref 76, .int 0, .ref 34]) h1 Q) := by
  refine (eq_run 8 (q := (8, [.ref 34, .ref 76], [.int 16, .int 16, .int 0, .ref 76, .int 0, .ref 34], hp nS M)) (by with_unfolding_all rfl)).trans ?_
  exact eq_call2 (e := (.invokestatic 359, 3, 1, 296, 65)) (as := [.int 16, .int 16]) (r := [.int 0, .ref 76, .int 0, .ref 34]) (n := 2) (m := 2) (by with_unfolding_all rfl) rfl (by decide) (by with_unfolding_all rfl) (by decide) (by with_unfolding_all rfl) ⟨fun z => absurd z (by decide), fun z => by simp at z⟩
-- b_131i166_11: copy
theorem k_34_76 {d nS : Nat} {M : am_M} {Q : Option Value → am_H → Prop} : am_Wp (d + 1) 131 0 [.ref 34, .ref 76] [] (hp nS M) Q = Q none (hp nS (am_row M 76 (va_cpy (M 34) (M 76) 0 0 16))) := by
  rw [b_131i166_0, c_296, am_ans_some, show (if (16 : Int32) < 16 then (16 : Int32) else 16) = 16 from rfl]
  refine (eq_copy2 (e := (.invokestatic 362, 3, 6, 0, 66)) (na := 16) (nb := 16) (by with_unfolding_all rfl) rfl rfl (by with_unfolding_all rfl) (by with_unfolding_all rfl) (by decide) (by decide) (by decide) ⟨by decide, by decide, by decide⟩).trans ?_
  exact eq_retV2 (e := (.return_, 1, 0, 0, 0)) (by with_unfolding_all rfl) rfl (by with_unfolding_all rfl)
set_option maxRecDepth 20000 in
theorem b_131i167_0 {d nS : Nat} {M : am_M} {Q : Option Value → am_H → Prop} : am_Wp (d + 1) 131 0 [.ref 35, .ref 77] [] (hp nS M) Q = am_Wp d 296 0 [.int 16, .int 16] [] (hp nS M) (fun v h1 => am_Wp (d + 1) 131 11 [.ref 35, .ref 77] (am_ans v [.int 0, .ref 77, .int 0, .ref 35]) h1 Q) := by
  refine (eq_run 8 (q := (8, [.ref 35, .ref 77], [.int 16, .int 16, .int 0, .ref 77, .int 0, .ref 35], hp nS M)) (by with_unfolding_all rfl)).trans ?_
  exact eq_call2 (e := (.invokestatic 359, 3, 1, 296, 65)) (as := [.int 16, .int 16]) (r := [.int 0, .ref 77, .int 0, .ref 35]) (n := 2) (m := 2) (by with_unfolding_all rfl) rfl (by decide) (by with_unfolding_all rfl) (by decide) (by with_unfolding_all rfl) ⟨fun z => absurd z (by decide), fun z => by simp at z⟩
-- b_131i167_11: copy
theorem k_35_77 {d nS : Nat} {M : am_M} {Q : Option Value → am_H → Prop} : am_Wp (d + 1) 131 0 [.ref 35, .ref 77] [] (hp nS M) Q = Q none (hp nS (am_row M 77 (va_cpy (M 35) (M 77) 0 0 16))) := by
  rw [b_131i167_0, c_296, am_ans_some, show (if (16 : Int32) < 16 then (16 : Int32) else 16) = 16 from rfl]
  refine (eq_copy2 (e := (.invokestatic 362, 3, 6, 0, 66)) (na := 16) (nb := 16) (by with_unfolding_all rfl) rfl rfl (by with_unfolding_all rfl) (by with_unfolding_all rfl) (by decide) (by decide) (by decide) ⟨by decide, by decide, by decide⟩).trans ?_
  exact eq_retV2 (e := (.return_, 1, 0, 0, 0)) (by with_unfolding_all rfl) rfl (by with_unfolding_all rfl)
set_option maxRecDepth 20000 in
theorem b_131i168_0 {d nS : Nat} {M : am_M} {Q : Option Value → am_H → Prop} : am_Wp (d + 1) 131 0 [.ref 40, .ref 82] [] (hp nS M) Q = am_Wp d 296 0 [.int 80, .int 80] [] (hp nS M) (fun v h1 => am_Wp (d + 1) 131 11 [.ref 40, .ref 82] (am_ans v [.int 0, .ref 82, .int 0, .ref 40]) h1 Q) := by
  refine (eq_run 8 (q := (8, [.ref 40, .ref 82], [.int 80, .int 80, .int 0, .ref 82, .int 0, .ref 40], hp nS M)) (by with_unfolding_all rfl)).trans ?_
  exact eq_call2 (e := (.invokestatic 359, 3, 1, 296, 65)) (as := [.int 80, .int 80]) (r := [.int 0, .ref 82, .int 0, .ref 40]) (n := 2) (m := 2) (by with_unfolding_all rfl) rfl (by decide) (by with_unfolding_all rfl) (by decide) (by with_unfolding_all rfl) ⟨fun z => absurd z (by decide), fun z => by simp at z⟩
-- b_131i168_11: copy
theorem k_40_82 {d nS : Nat} {M : am_M} {Q : Option Value → am_H → Prop} : am_Wp (d + 1) 131 0 [.ref 40, .ref 82] [] (hp nS M) Q = Q none (hp nS (am_row M 82 (va_cpy (M 40) (M 82) 0 0 80))) := by
  rw [b_131i168_0, c_296, am_ans_some, show (if (80 : Int32) < 80 then (80 : Int32) else 80) = 80 from rfl]
  refine (eq_copy2 (e := (.invokestatic 362, 3, 6, 0, 66)) (na := 80) (nb := 80) (by with_unfolding_all rfl) rfl rfl (by with_unfolding_all rfl) (by with_unfolding_all rfl) (by decide) (by decide) (by decide) ⟨by decide, by decide, by decide⟩).trans ?_
  exact eq_retV2 (e := (.return_, 1, 0, 0, 0)) (by with_unfolding_all rfl) rfl (by with_unfolding_all rfl)
set_option maxRecDepth 20000 in
theorem b_131i169_0 {d nS : Nat} {M : am_M} {Q : Option Value → am_H → Prop} : am_Wp (d + 1) 131 0 [.ref 42, .ref 84] [] (hp nS M) Q = am_Wp d 296 0 [.int 80, .int 80] [] (hp nS M) (fun v h1 => am_Wp (d + 1) 131 11 [.ref 42, .ref 84] (am_ans v [.int 0, .ref 84, .int 0, .ref 42]) h1 Q) := by
  refine (eq_run 8 (q := (8, [.ref 42, .ref 84], [.int 80, .int 80, .int 0, .ref 84, .int 0, .ref 42], hp nS M)) (by with_unfolding_all rfl)).trans ?_
  exact eq_call2 (e := (.invokestatic 359, 3, 1, 296, 65)) (as := [.int 80, .int 80]) (r := [.int 0, .ref 84, .int 0, .ref 42]) (n := 2) (m := 2) (by with_unfolding_all rfl) rfl (by decide) (by with_unfolding_all rfl) (by decide) (by with_unfolding_all rfl) ⟨fun z => absurd z (by decide), fun z => by simp at z⟩
-- b_131i169_11: copy
theorem k_42_84 {d nS : Nat} {M : am_M} {Q : Option Value → am_H → Prop} : am_Wp (d + 1) 131 0 [.ref 42, .ref 84] [] (hp nS M) Q = Q none (hp nS (am_row M 84 (va_cpy (M 42) (M 84) 0 0 80))) := by
  rw [b_131i169_0, c_296, am_ans_some, show (if (80 : Int32) < 80 then (80 : Int32) else 80) = 80 from rfl]
  refine (eq_copy2 (e := (.invokestatic 362, 3, 6, 0, 66)) (na := 80) (nb := 80) (by with_unfolding_all rfl) rfl rfl (by with_unfolding_all rfl) (by with_unfolding_all rfl) (by decide) (by decide) (by decide) ⟨by decide, by decide, by decide⟩).trans ?_
  exact eq_retV2 (e := (.return_, 1, 0, 0, 0)) (by with_unfolding_all rfl) rfl (by with_unfolding_all rfl)
set_option maxRecDepth 20000 in
theorem b_131i170_0 {d nS : Nat} {M : am_M} {Q : Option Value → am_H → Prop} : am_Wp (d + 1) 131 0 [.ref 44, .ref 86] [] (hp nS M) Q = am_Wp d 296 0 [.int 80, .int 80] [] (hp nS M) (fun v h1 => am_Wp (d + 1) 131 11 [.ref 44, .ref 86] (am_ans v [.int 0, .ref 86, .int 0, .ref 44]) h1 Q) := by
  refine (eq_run 8 (q := (8, [.ref 44, .ref 86], [.int 80, .int 80, .int 0, .ref 86, .int 0, .ref 44], hp nS M)) (by with_unfolding_all rfl)).trans ?_
  exact eq_call2 (e := (.invokestatic 359, 3, 1, 296, 65)) (as := [.int 80, .int 80]) (r := [.int 0, .ref 86, .int 0, .ref 44]) (n := 2) (m := 2) (by with_unfolding_all rfl) rfl (by decide) (by with_unfolding_all rfl) (by decide) (by with_unfolding_all rfl) ⟨fun z => absurd z (by decide), fun z => by simp at z⟩
-- b_131i170_11: copy
theorem k_44_86 {d nS : Nat} {M : am_M} {Q : Option Value → am_H → Prop} : am_Wp (d + 1) 131 0 [.ref 44, .ref 86] [] (hp nS M) Q = Q none (hp nS (am_row M 86 (va_cpy (M 44) (M 86) 0 0 80))) := by
  rw [b_131i170_0, c_296, am_ans_some, show (if (80 : Int32) < 80 then (80 : Int32) else 80) = 80 from rfl]
  refine (eq_copy2 (e := (.invokestatic 362, 3, 6, 0, 66)) (na := 80) (nb := 80) (by with_unfolding_all rfl) rfl rfl (by with_unfolding_all rfl) (by with_unfolding_all rfl) (by decide) (by decide) (by decide) ⟨by decide, by decide, by decide⟩).trans ?_
  exact eq_retV2 (e := (.return_, 1, 0, 0, 0)) (by with_unfolding_all rfl) rfl (by with_unfolding_all rfl)
set_option maxRecDepth 20000 in
theorem b_131i171_0 {d nS : Nat} {M : am_M} {Q : Option Value → am_H → Prop} : am_Wp (d + 1) 131 0 [.ref 46, .ref 88] [] (hp nS M) Q = am_Wp d 296 0 [.int 14, .int 14] [] (hp nS M) (fun v h1 => am_Wp (d + 1) 131 11 [.ref 46, .ref 88] (am_ans v [.int 0, .ref 88, .int 0, .ref 46]) h1 Q) := by
  refine (eq_run 8 (q := (8, [.ref 46, .ref 88], [.int 14, .int 14, .int 0, .ref 88, .int 0, .ref 46], hp nS M)) (by with_unfolding_all rfl)).trans ?_
  exact eq_call2 (e := (.invokestatic 359, 3, 1, 296, 65)) (as := [.int 14, .int 14]) (r := [.int 0, .ref 88, .int 0, .ref 46]) (n := 2) (m := 2) (by with_unfolding_all rfl) rfl (by decide) (by with_unfolding_all rfl) (by decide) (by with_unfolding_all rfl) ⟨fun z => absurd z (by decide), fun z => by simp at z⟩
-- b_131i171_11: copy
theorem k_46_88 {d nS : Nat} {M : am_M} {Q : Option Value → am_H → Prop} : am_Wp (d + 1) 131 0 [.ref 46, .ref 88] [] (hp nS M) Q = Q none (hp nS (am_row M 88 (va_cpy (M 46) (M 88) 0 0 14))) := by
  rw [b_131i171_0, c_296, am_ans_some, show (if (14 : Int32) < 14 then (14 : Int32) else 14) = 14 from rfl]
  refine (eq_copy2 (e := (.invokestatic 362, 3, 6, 0, 66)) (na := 14) (nb := 14) (by with_unfolding_all rfl) rfl rfl (by with_unfolding_all rfl) (by with_unfolding_all rfl) (by decide) (by decide) (by decide) ⟨by decide, by decide, by decide⟩).trans ?_
  exact eq_retV2 (e := (.return_, 1, 0, 0, 0)) (by with_unfolding_all rfl) rfl (by with_unfolding_all rfl)
set_option maxRecDepth 20000 in
theorem b_131i172_0 {d nS : Nat} {M : am_M} {Q : Option Value → am_H → Prop} : am_Wp (d + 1) 131 0 [.ref 51, .ref 93] [] (hp nS M) Q = am_Wp d 296 0 [.int 28, .int 28] [] (hp nS M) (fun v h1 => am_Wp (d + 1) 131 11 [.ref 51, .ref 93] (am_ans v [.int 0, .ref 93, .int 0, .ref 51]) h1 Q) := by
  refine (eq_run 8 (q := (8, [.ref 51, .ref 93], [.int 28, .int 28, .int 0, .ref 93, .int 0, .ref 51], hp nS M)) (by with_unfolding_all rfl)).trans ?_
  exact eq_call2 (e := (.invokestatic 359, 3, 1, 296, 65)) (as := [.int 28, .int 28]) (r := [.int 0, .ref 93, .int 0, .ref 51]) (n := 2) (m := 2) (by with_unfolding_all rfl) rfl (by decide) (by with_unfolding_all rfl) (by decide) (by with_unfolding_all rfl) ⟨fun z => absurd z (by decide), fun z => by simp at z⟩
-- b_131i172_11: copy
theorem k_51_93 {d nS : Nat} {M : am_M} {Q : Option Value → am_H → Prop} : am_Wp (d + 1) 131 0 [.ref 51, .ref 93] [] (hp nS M) Q = Q none (hp nS (am_row M 93 (va_cpy (M 51) (M 93) 0 0 28))) := by
  rw [b_131i172_0, c_296, am_ans_some, show (if (28 : Int32) < 28 then (28 : Int32) else 28) = 28 from rfl]
  refine (eq_copy2 (e := (.invokestatic 362, 3, 6, 0, 66)) (na := 28) (nb := 28) (by with_unfolding_all rfl) rfl rfl (by with_unfolding_all rfl) (by with_unfolding_all rfl) (by decide) (by decide) (by decide) ⟨by decide, by decide, by decide⟩).trans ?_
  exact eq_retV2 (e := (.return_, 1, 0, 0, 0)) (by with_unfolding_all rfl) rfl (by with_unfolding_all rfl)
set_option maxRecDepth 20000 in
theorem b_131i173_0 {d nS : Nat} {M : am_M} {Q : Option Value → am_H → Prop} : am_Wp (d + 1) 131 0 [.ref 55, .ref 97] [] (hp nS M) Q = am_Wp d 296 0 [.int 16, .int 16] [] (hp nS M) (fun v h1 => am_Wp (d + 1) 131 11 [.ref 55, .ref 97] (am_ans v [.int 0, .ref 97, .int 0, .ref 55]) h1 Q) := by
  refine (eq_run 8 (q := (8, [.ref 55, .ref 97], [.int 16, .int 16, .int 0, .ref 97, .int 0, .ref 55], hp nS M)) (by with_unfolding_all rfl)).trans ?_
  exact eq_call2 (e := (.invokestatic 359, 3, 1, 296, 65)) (as := [.int 16, .int 16]) (r := [.int 0, .ref 97, .int 0, .ref 55]) (n := 2) (m := 2) (by with_unfolding_all rfl) rfl (by decide) (by with_unfolding_all rfl) (by decide) (by with_unfolding_all rfl) ⟨fun z => absurd z (by decide), fun z => by simp at z⟩
-- b_131i173_11: copy
theorem k_55_97 {d nS : Nat} {M : am_M} {Q : Option Value → am_H → Prop} : am_Wp (d + 1) 131 0 [.ref 55, .ref 97] [] (hp nS M) Q = Q none (hp nS (am_row M 97 (va_cpy (M 55) (M 97) 0 0 16))) := by
  rw [b_131i173_0, c_296, am_ans_some, show (if (16 : Int32) < 16 then (16 : Int32) else 16) = 16 from rfl]
  refine (eq_copy2 (e := (.invokestatic 362, 3, 6, 0, 66)) (na := 16) (nb := 16) (by with_unfolding_all rfl) rfl rfl (by with_unfolding_all rfl) (by with_unfolding_all rfl) (by decide) (by decide) (by decide) ⟨by decide, by decide, by decide⟩).trans ?_
  exact eq_retV2 (e := (.return_, 1, 0, 0, 0)) (by with_unfolding_all rfl) rfl (by with_unfolding_all rfl)
set_option maxRecDepth 20000 in
theorem b_131i174_0 {d nS : Nat} {M : am_M} {Q : Option Value → am_H → Prop} : am_Wp (d + 1) 131 0 [.ref 56, .ref 98] [] (hp nS M) Q = am_Wp d 296 0 [.int 8, .int 8] [] (hp nS M) (fun v h1 => am_Wp (d + 1) 131 11 [.ref 56, .ref 98] (am_ans v [.int 0, .ref 98, .int 0, .ref 56]) h1 Q) := by
  refine (eq_run 8 (q := (8, [.ref 56, .ref 98], [.int 8, .int 8, .int 0, .ref 98, .int 0, .ref 56], hp nS M)) (by with_unfolding_all rfl)).trans ?_
  exact eq_call2 (e := (.invokestatic 359, 3, 1, 296, 65)) (as := [.int 8, .int 8]) (r := [.int 0, .ref 98, .int 0, .ref 56]) (n := 2) (m := 2) (by with_unfolding_all rfl) rfl (by decide) (by with_unfolding_all rfl) (by decide) (by with_unfolding_all rfl) ⟨fun z => absurd z (by decide), fun z => by simp at z⟩
-- b_131i174_11: copy
theorem k_56_98 {d nS : Nat} {M : am_M} {Q : Option Value → am_H → Prop} : am_Wp (d + 1) 131 0 [.ref 56, .ref 98] [] (hp nS M) Q = Q none (hp nS (am_row M 98 (va_cpy (M 56) (M 98) 0 0 8))) := by
  rw [b_131i174_0, c_296, am_ans_some, show (if (8 : Int32) < 8 then (8 : Int32) else 8) = 8 from rfl]
  refine (eq_copy2 (e := (.invokestatic 362, 3, 6, 0, 66)) (na := 8) (nb := 8) (by with_unfolding_all rfl) rfl rfl (by with_unfolding_all rfl) (by with_unfolding_all rfl) (by decide) (by decide) (by decide) ⟨by decide, by decide, by decide⟩).trans ?_
  exact eq_retV2 (e := (.return_, 1, 0, 0, 0)) (by with_unfolding_all rfl) rfl (by with_unfolding_all rfl)
set_option maxRecDepth 20000 in
theorem b_131i175_0 {d nS : Nat} {M : am_M} {Q : Option Value → am_H → Prop} : am_Wp (d + 1) 131 0 [.ref 57, .ref 99] [] (hp nS M) Q = am_Wp d 296 0 [.int 8, .int 8] [] (hp nS M) (fun v h1 => am_Wp (d + 1) 131 11 [.ref 57, .ref 99] (am_ans v [.int 0, .ref 99, .int 0, .ref 57]) h1 Q) := by
  refine (eq_run 8 (q := (8, [.ref 57, .ref 99], [.int 8, .int 8, .int 0, .ref 99, .int 0, .ref 57], hp nS M)) (by with_unfolding_all rfl)).trans ?_
  exact eq_call2 (e := (.invokestatic 359, 3, 1, 296, 65)) (as := [.int 8, .int 8]) (r := [.int 0, .ref 99, .int 0, .ref 57]) (n := 2) (m := 2) (by with_unfolding_all rfl) rfl (by decide) (by with_unfolding_all rfl) (by decide) (by with_unfolding_all rfl) ⟨fun z => absurd z (by decide), fun z => by simp at z⟩
-- b_131i175_11: copy
theorem k_57_99 {d nS : Nat} {M : am_M} {Q : Option Value → am_H → Prop} : am_Wp (d + 1) 131 0 [.ref 57, .ref 99] [] (hp nS M) Q = Q none (hp nS (am_row M 99 (va_cpy (M 57) (M 99) 0 0 8))) := by
  rw [b_131i175_0, c_296, am_ans_some, show (if (8 : Int32) < 8 then (8 : Int32) else 8) = 8 from rfl]
  refine (eq_copy2 (e := (.invokestatic 362, 3, 6, 0, 66)) (na := 8) (nb := 8) (by with_unfolding_all rfl) rfl rfl (by with_unfolding_all rfl) (by with_unfolding_all rfl) (by decide) (by decide) (by decide) ⟨by decide, by decide, by decide⟩).trans ?_
  exact eq_retV2 (e := (.return_, 1, 0, 0, 0)) (by with_unfolding_all rfl) rfl (by with_unfolding_all rfl)
set_option maxRecDepth 20000 in
theorem b_131i176_0 {d nS : Nat} {M : am_M} {Q : Option Value → am_H → Prop} : am_Wp (d + 1) 131 0 [.ref 61, .ref 19] [] (hp nS M) Q = am_Wp d 296 0 [.int 6, .int 6] [] (hp nS M) (fun v h1 => am_Wp (d + 1) 131 11 [.ref 61, .ref 19] (am_ans v [.int 0, .ref 19, .int 0, .ref 61]) h1 Q) := by
  refine (eq_run 8 (q := (8, [.ref 61, .ref 19], [.int 6, .int 6, .int 0, .ref 19, .int 0, .ref 61], hp nS M)) (by with_unfolding_all rfl)).trans ?_
  exact eq_call2 (e := (.invokestatic 359, 3, 1, 296, 65)) (as := [.int 6, .int 6]) (r := [.int 0, .ref 19, .int 0, .ref 61]) (n := 2) (m := 2) (by with_unfolding_all rfl) rfl (by decide) (by with_unfolding_all rfl) (by decide) (by with_unfolding_all rfl) ⟨fun z => absurd z (by decide), fun z => by simp at z⟩
-- b_131i176_11: copy
theorem k_61_19 {d nS : Nat} {M : am_M} {Q : Option Value → am_H → Prop} : am_Wp (d + 1) 131 0 [.ref 61, .ref 19] [] (hp nS M) Q = Q none (hp nS (am_row M 19 (va_cpy (M 61) (M 19) 0 0 6))) := by
  rw [b_131i176_0, c_296, am_ans_some, show (if (6 : Int32) < 6 then (6 : Int32) else 6) = 6 from rfl]
  refine (eq_copy2 (e := (.invokestatic 362, 3, 6, 0, 66)) (na := 6) (nb := 6) (by with_unfolding_all rfl) rfl rfl (by with_unfolding_all rfl) (by with_unfolding_all rfl) (by decide) (by decide) (by decide) ⟨by decide, by decide, by decide⟩).trans ?_
  exact eq_retV2 (e := (.return_, 1, 0, 0, 0)) (by with_unfolding_all rfl) rfl (by with_unfolding_all rfl)
set_option maxRecDepth 20000 in
theorem b_131i177_0 {d nS : Nat} {M : am_M} {Q : Option Value → am_H → Prop} : am_Wp (d + 1) 131 0 [.ref 62, .ref 20] [] (hp nS M) Q = am_Wp d 296 0 [.int 6, .int 6] [] (hp nS M) (fun v h1 => am_Wp (d + 1) 131 11 [.ref 62, .ref 20] (am_ans v [.int 0, .ref 20, .int 0, .ref 62]) h1 Q) := by
  refine (eq_run 8 (q := (8, [.ref 62, .ref 20], [.int 6, .int 6, .int 0, .ref 20, .int 0, .ref 62], hp nS M)) (by with_unfolding_all rfl)).trans ?_
  exact eq_call2 (e := (.invokestatic 359, 3, 1, 296, 65)) (as := [.int 6, .int 6]) (r := [.int 0, .ref 20, .int 0, .ref 62]) (n := 2) (m := 2) (by with_unfolding_all rfl) rfl (by decide) (by with_unfolding_all rfl) (by decide) (by with_unfolding_all rfl) ⟨fun z => absurd z (by decide), fun z => by simp at z⟩
-- b_131i177_11: copy
theorem k_62_20 {d nS : Nat} {M : am_M} {Q : Option Value → am_H → Prop} : am_Wp (d + 1) 131 0 [.ref 62, .ref 20] [] (hp nS M) Q = Q none (hp nS (am_row M 20 (va_cpy (M 62) (M 20) 0 0 6))) := by
  rw [b_131i177_0, c_296, am_ans_some, show (if (6 : Int32) < 6 then (6 : Int32) else 6) = 6 from rfl]
  refine (eq_copy2 (e := (.invokestatic 362, 3, 6, 0, 66)) (na := 6) (nb := 6) (by with_unfolding_all rfl) rfl rfl (by with_unfolding_all rfl) (by with_unfolding_all rfl) (by decide) (by decide) (by decide) ⟨by decide, by decide, by decide⟩).trans ?_
  exact eq_retV2 (e := (.return_, 1, 0, 0, 0)) (by with_unfolding_all rfl) rfl (by with_unfolding_all rfl)
set_option maxRecDepth 20000 in
theorem b_131i178_0 {d nS : Nat} {M : am_M} {Q : Option Value → am_H → Prop} : am_Wp (d + 1) 131 0 [.ref 63, .ref 21] [] (hp nS M) Q = am_Wp d 296 0 [.int 6, .int 6] [] (hp nS M) (fun v h1 => am_Wp (d + 1) 131 11 [.ref 63, .ref 21] (am_ans v [.int 0, .ref 21, .int 0, .ref 63]) h1 Q) := by
  refine (eq_run 8 (q := (8, [.ref 63, .ref 21], [.int 6, .int 6, .int 0, .ref 21, .int 0, .ref 63], hp nS M)) (by with_unfolding_all rfl)).trans ?_
  exact eq_call2 (e := (.invokestatic 359, 3, 1, 296, 65)) (as := [.int 6, .int 6]) (r := [.int 0, .ref 21, .int 0, .ref 63]) (n := 2) (m := 2) (by with_unfolding_all rfl) rfl (by decide) (by with_unfolding_all rfl) (by decide) (by with_unfolding_all rfl) ⟨fun z => absurd z (by decide), fun z => by simp at z⟩
-- b_131i178_11: copy
theorem k_63_21 {d nS : Nat} {M : am_M} {Q : Option Value → am_H → Prop} : am_Wp (d + 1) 131 0 [.ref 63, .ref 21] [] (hp nS M) Q = Q none (hp nS (am_row M 21 (va_cpy (M 63) (M 21) 0 0 6))) := by
  rw [b_131i178_0, c_296, am_ans_some, show (if (6 : Int32) < 6 then (6 : Int32) else 6) = 6 from rfl]
  refine (eq_copy2 (e := (.invokestatic 362, 3, 6, 0, 66)) (na := 6) (nb := 6) (by with_unfolding_all rfl) rfl rfl (by with_unfolding_all rfl) (by with_unfolding_all rfl) (by decide) (by decide) (by decide) ⟨by decide, by decide, by decide⟩).trans ?_
  exact eq_retV2 (e := (.return_, 1, 0, 0, 0)) (by with_unfolding_all rfl) rfl (by with_unfolding_all rfl)
set_option maxRecDepth 20000 in
theorem b_131i179_0 {d nS : Nat} {M : am_M} {Q : Option Value → am_H → Prop} : am_Wp (d + 1) 131 0 [.ref 64, .ref 22] [] (hp nS M) Q = am_Wp d 296 0 [.int 6, .int 6] [] (hp nS M) (fun v h1 => am_Wp (d + 1) 131 11 [.ref 64, .ref 22] (am_ans v [.int 0, .ref 22, .int 0, .ref 64]) h1 Q) := by
  refine (eq_run 8 (q := (8, [.ref 64, .ref 22], [.int 6, .int 6, .int 0, .ref 22, .int 0, .ref 64], hp nS M)) (by with_unfolding_all rfl)).trans ?_
  exact eq_call2 (e := (.invokestatic 359, 3, 1, 296, 65)) (as := [.int 6, .int 6]) (r := [.int 0, .ref 22, .int 0, .ref 64]) (n := 2) (m := 2) (by with_unfolding_all rfl) rfl (by decide) (by with_unfolding_all rfl) (by decide) (by with_unfolding_all rfl) ⟨fun z => absurd z (by decide), fun z => by simp at z⟩
-- b_131i179_11: copy
theorem k_64_22 {d nS : Nat} {M : am_M} {Q : Option Value → am_H → Prop} : am_Wp (d + 1) 131 0 [.ref 64, .ref 22] [] (hp nS M) Q = Q none (hp nS (am_row M 22 (va_cpy (M 64) (M 22) 0 0 6))) := by
  rw [b_131i179_0, c_296, am_ans_some, show (if (6 : Int32) < 6 then (6 : Int32) else 6) = 6 from rfl]
  refine (eq_copy2 (e := (.invokestatic 362, 3, 6, 0, 66)) (na := 6) (nb := 6) (by with_unfolding_all rfl) rfl rfl (by with_unfolding_all rfl) (by with_unfolding_all rfl) (by decide) (by decide) (by decide) ⟨by decide, by decide, by decide⟩).trans ?_
  exact eq_retV2 (e := (.return_, 1, 0, 0, 0)) (by with_unfolding_all rfl) rfl (by with_unfolding_all rfl)
set_option maxRecDepth 20000 in
theorem b_131i180_0 {d nS : Nat} {M : am_M} {Q : Option Value → am_H → Prop} : am_Wp (d + 1) 131 0 [.ref 65, .ref 23] [] (hp nS M) Q = am_Wp d 296 0 [.int 6, .int 6] [] (hp nS M) (fun v h1 => am_Wp (d + 1) 131 11 [.ref 65, .ref 23] (am_ans v [.int 0, .ref 23, .int 0, .ref 65]) h1 Q) := by
  refine (eq_run 8 (q := (8, [.ref 65, .ref 23], [.int 6, .int 6, .int 0, .ref 23, .int 0, .ref 65], hp nS M)) (by with_unfolding_all rfl)).trans ?_
  exact eq_call2 (e := (.invokestatic 359, 3, 1, 296, 65)) (as := [.int 6, .int 6]) (r := [.int 0, .ref 23, .int 0, .ref 65]) (n := 2) (m := 2) (by with_unfolding_all rfl) rfl (by decide) (by with_unfolding_all rfl) (by decide) (by with_unfolding_all rfl) ⟨fun z => absurd z (by decide), fun z => by simp at z⟩
-- b_131i180_11: copy
theorem k_65_23 {d nS : Nat} {M : am_M} {Q : Option Value → am_H → Prop} : am_Wp (d + 1) 131 0 [.ref 65, .ref 23] [] (hp nS M) Q = Q none (hp nS (am_row M 23 (va_cpy (M 65) (M 23) 0 0 6))) := by
  rw [b_131i180_0, c_296, am_ans_some, show (if (6 : Int32) < 6 then (6 : Int32) else 6) = 6 from rfl]
  refine (eq_copy2 (e := (.invokestatic 362, 3, 6, 0, 66)) (na := 6) (nb := 6) (by with_unfolding_all rfl) rfl rfl (by with_unfolding_all rfl) (by with_unfolding_all rfl) (by decide) (by decide) (by decide) ⟨by decide, by decide, by decide⟩).trans ?_
  exact eq_retV2 (e := (.return_, 1, 0, 0, 0)) (by with_unfolding_all rfl) rfl (by with_unfolding_all rfl)
set_option maxRecDepth 20000 in
theorem b_131i181_0 {d nS : Nat} {M : am_M} {Q : Option Value → am_H → Prop} : am_Wp (d + 1) 131 0 [.ref 66, .ref 24] [] (hp nS M) Q = am_Wp d 296 0 [.int 8, .int 8] [] (hp nS M) (fun v h1 => am_Wp (d + 1) 131 11 [.ref 66, .ref 24] (am_ans v [.int 0, .ref 24, .int 0, .ref 66]) h1 Q) := by
  refine (eq_run 8 (q := (8, [.ref 66, .ref 24], [.int 8, .int 8, .int 0, .ref 24, .int 0, .ref 66], hp nS M)) (by with_unfolding_all rfl)).trans ?_
  exact eq_call2 (e := (.invokestatic 359, 3, 1, 296, 65)) (as := [.int 8, .int 8]) (r := [.int 0, .ref 24, .int 0, .ref 66]) (n := 2) (m := 2) (by with_unfolding_all rfl) rfl (by decide) (by with_unfolding_all rfl) (by decide) (by with_unfolding_all rfl) ⟨fun z => absurd z (by decide), fun z => by simp at z⟩
-- b_131i181_11: copy
theorem k_66_24 {d nS : Nat} {M : am_M} {Q : Option Value → am_H → Prop} : am_Wp (d + 1) 131 0 [.ref 66, .ref 24] [] (hp nS M) Q = Q none (hp nS (am_row M 24 (va_cpy (M 66) (M 24) 0 0 8))) := by
  rw [b_131i181_0, c_296, am_ans_some, show (if (8 : Int32) < 8 then (8 : Int32) else 8) = 8 from rfl]
  refine (eq_copy2 (e := (.invokestatic 362, 3, 6, 0, 66)) (na := 8) (nb := 8) (by with_unfolding_all rfl) rfl rfl (by with_unfolding_all rfl) (by with_unfolding_all rfl) (by decide) (by decide) (by decide) ⟨by decide, by decide, by decide⟩).trans ?_
  exact eq_retV2 (e := (.return_, 1, 0, 0, 0)) (by with_unfolding_all rfl) rfl (by with_unfolding_all rfl)
set_option maxRecDepth 20000 in
theorem b_131i182_0 {d nS : Nat} {M : am_M} {Q : Option Value → am_H → Prop} : am_Wp (d + 1) 131 0 [.ref 67, .ref 25] [] (hp nS M) Q = am_Wp d 296 0 [.int 8, .int 8] [] (hp nS M) (fun v h1 => am_Wp (d + 1) 131 11 [.ref 67, .ref 25] (am_ans v [.int 0, .ref 25, .int 0, .ref 67]) h1 Q) := by
  refine (eq_run 8 (q := (8, [.ref 67, .ref 25], [.int 8, .int 8, .int 0, .ref 25, .int 0, .ref 67], hp nS M)) (by with_unfolding_all rfl)).trans ?_
  exact eq_call2 (e := (.invokestatic 359, 3, 1, 296, 65)) (as := [.int 8, .int 8]) (r := [.int 0, .ref 25, .int 0, .ref 67]) (n := 2) (m := 2) (by with_unfolding_all rfl) rfl (by decide) (by with_unfolding_all rfl) (by decide) (by with_unfolding_all rfl) ⟨fun z => absurd z (by decide), fun z => by simp at z⟩
-- b_131i182_11: copy
theorem k_67_25 {d nS : Nat} {M : am_M} {Q : Option Value → am_H → Prop} : am_Wp (d + 1) 131 0 [.ref 67, .ref 25] [] (hp nS M) Q = Q none (hp nS (am_row M 25 (va_cpy (M 67) (M 25) 0 0 8))) := by
  rw [b_131i182_0, c_296, am_ans_some, show (if (8 : Int32) < 8 then (8 : Int32) else 8) = 8 from rfl]
  refine (eq_copy2 (e := (.invokestatic 362, 3, 6, 0, 66)) (na := 8) (nb := 8) (by with_unfolding_all rfl) rfl rfl (by with_unfolding_all rfl) (by with_unfolding_all rfl) (by decide) (by decide) (by decide) ⟨by decide, by decide, by decide⟩).trans ?_
  exact eq_retV2 (e := (.return_, 1, 0, 0, 0)) (by with_unfolding_all rfl) rfl (by with_unfolding_all rfl)
set_option maxRecDepth 20000 in
theorem b_131i183_0 {d nS : Nat} {M : am_M} {Q : Option Value → am_H → Prop} : am_Wp (d + 1) 131 0 [.ref 68, .ref 26] [] (hp nS M) Q = am_Wp d 296 0 [.int 8, .int 8] [] (hp nS M) (fun v h1 => am_Wp (d + 1) 131 11 [.ref 68, .ref 26] (am_ans v [.int 0, .ref 26, .int 0, .ref 68]) h1 Q) := by
  refine (eq_run 8 (q := (8, [.ref 68, .ref 26], [.int 8, .int 8, .int 0, .ref 26, .int 0, .ref 68], hp nS M)) (by with_unfolding_all rfl)).trans ?_
  exact eq_call2 (e := (.invokestatic 359, 3, 1, 296, 65)) (as := [.int 8, .int 8]) (r := [.int 0, .ref 26, .int 0, .ref 68]) (n := 2) (m := 2) (by with_unfolding_all rfl) rfl (by decide) (by with_unfolding_all rfl) (by decide) (by with_unfolding_all rfl) ⟨fun z => absurd z (by decide), fun z => by simp at z⟩
-- b_131i183_11: copy
theorem k_68_26 {d nS : Nat} {M : am_M} {Q : Option Value → am_H → Prop} : am_Wp (d + 1) 131 0 [.ref 68, .ref 26] [] (hp nS M) Q = Q none (hp nS (am_row M 26 (va_cpy (M 68) (M 26) 0 0 8))) := by
  rw [b_131i183_0, c_296, am_ans_some, show (if (8 : Int32) < 8 then (8 : Int32) else 8) = 8 from rfl]
  refine (eq_copy2 (e := (.invokestatic 362, 3, 6, 0, 66)) (na := 8) (nb := 8) (by with_unfolding_all rfl) rfl rfl (by with_unfolding_all rfl) (by with_unfolding_all rfl) (by decide) (by decide) (by decide) ⟨by decide, by decide, by decide⟩).trans ?_
  exact eq_retV2 (e := (.return_, 1, 0, 0, 0)) (by with_unfolding_all rfl) rfl (by with_unfolding_all rfl)
set_option maxRecDepth 20000 in
theorem b_131i184_0 {d nS : Nat} {M : am_M} {Q : Option Value → am_H → Prop} : am_Wp (d + 1) 131 0 [.ref 69, .ref 27] [] (hp nS M) Q = am_Wp d 296 0 [.int 10, .int 10] [] (hp nS M) (fun v h1 => am_Wp (d + 1) 131 11 [.ref 69, .ref 27] (am_ans v [.int 0, .ref 27, .int 0, .ref 69]) h1 Q) := by
  refine (eq_run 8 (q := (8, [.ref 69, .ref 27], [.int 10, .int 10, .int 0, .ref 27, .int 0, .ref 69], hp nS M)) (by with_unfolding_all rfl)).trans ?_
  exact eq_call2 (e := (.invokestatic 359, 3, 1, 296, 65)) (as := [.int 10, .int 10]) (r := [.int 0, .ref 27, .int 0, .ref 69]) (n := 2) (m := 2) (by with_unfolding_all rfl) rfl (by decide) (by with_unfolding_all rfl) (by decide) (by with_unfolding_all rfl) ⟨fun z => absurd z (by decide), fun z => by simp at z⟩
-- b_131i184_11: copy
theorem k_69_27 {d nS : Nat} {M : am_M} {Q : Option Value → am_H → Prop} : am_Wp (d + 1) 131 0 [.ref 69, .ref 27] [] (hp nS M) Q = Q none (hp nS (am_row M 27 (va_cpy (M 69) (M 27) 0 0 10))) := by
  rw [b_131i184_0, c_296, am_ans_some, show (if (10 : Int32) < 10 then (10 : Int32) else 10) = 10 from rfl]
  refine (eq_copy2 (e := (.invokestatic 362, 3, 6, 0, 66)) (na := 10) (nb := 10) (by with_unfolding_all rfl) rfl rfl (by with_unfolding_all rfl) (by with_unfolding_all rfl) (by decide) (by decide) (by decide) ⟨by decide, by decide, by decide⟩).trans ?_
  exact eq_retV2 (e := (.return_, 1, 0, 0, 0)) (by with_unfolding_all rfl) rfl (by with_unfolding_all rfl)
set_option maxRecDepth 20000 in
theorem b_131i185_0 {d nS : Nat} {M : am_M} {Q : Option Value → am_H → Prop} : am_Wp (d + 1) 131 0 [.ref 70, .ref 28] [] (hp nS M) Q = am_Wp d 296 0 [.int 10, .int 10] [] (hp nS M) (fun v h1 => am_Wp (d + 1) 131 11 [.ref 70, .ref 28] (am_ans v [.int 0, .ref 28, .int 0, .ref 70]) h1 Q) := by
  refine (eq_run 8 (q := (8, [.ref 70, .ref 28], [.int 10, .int 10, .int 0, .ref 28, .int 0, .ref 70], hp nS M)) (by with_unfolding_all rfl)).trans ?_
  exact eq_call2 (e := (.invokestatic 359, 3, 1, 296, 65)) (as := [.int 10, .int 10]) (r := [.int 0, .ref 28, .int 0, .ref 70]) (n := 2) (m := 2) (by with_unfolding_all rfl) rfl (by decide) (by with_unfolding_all rfl) (by decide) (by with_unfolding_all rfl) ⟨fun z => absurd z (by decide), fun z => by simp at z⟩
-- b_131i185_11: copy
theorem k_70_28 {d nS : Nat} {M : am_M} {Q : Option Value → am_H → Prop} : am_Wp (d + 1) 131 0 [.ref 70, .ref 28] [] (hp nS M) Q = Q none (hp nS (am_row M 28 (va_cpy (M 70) (M 28) 0 0 10))) := by
  rw [b_131i185_0, c_296, am_ans_some, show (if (10 : Int32) < 10 then (10 : Int32) else 10) = 10 from rfl]
  refine (eq_copy2 (e := (.invokestatic 362, 3, 6, 0, 66)) (na := 10) (nb := 10) (by with_unfolding_all rfl) rfl rfl (by with_unfolding_all rfl) (by with_unfolding_all rfl) (by decide) (by decide) (by decide) ⟨by decide, by decide, by decide⟩).trans ?_
  exact eq_retV2 (e := (.return_, 1, 0, 0, 0)) (by with_unfolding_all rfl) rfl (by with_unfolding_all rfl)
set_option maxRecDepth 20000 in
theorem b_131i186_0 {d nS : Nat} {M : am_M} {Q : Option Value → am_H → Prop} : am_Wp (d + 1) 131 0 [.ref 71, .ref 29] [] (hp nS M) Q = am_Wp d 296 0 [.int 80, .int 80] [] (hp nS M) (fun v h1 => am_Wp (d + 1) 131 11 [.ref 71, .ref 29] (am_ans v [.int 0, .ref 29, .int 0, .ref 71]) h1 Q) := by
  refine (eq_run 8 (q := (8, [.ref 71, .ref 29], [.int 80, .int 80, .int 0, .ref 29, .int 0, .ref 71], hp nS M)) (by with_unfolding_all rfl)).trans ?_
  exact eq_call2 (e := (.invokestatic 359, 3, 1, 296, 65)) (as := [.int 80, .int 80]) (r := [.int 0, .ref 29, .int 0, .ref 71]) (n := 2) (m := 2) (by with_unfolding_all rfl) rfl (by decide) (by with_unfolding_all rfl) (by decide) (by with_unfolding_all rfl) ⟨fun z => absurd z (by decide), fun z => by simp at z⟩
-- b_131i186_11: copy
theorem k_71_29 {d nS : Nat} {M : am_M} {Q : Option Value → am_H → Prop} : am_Wp (d + 1) 131 0 [.ref 71, .ref 29] [] (hp nS M) Q = Q none (hp nS (am_row M 29 (va_cpy (M 71) (M 29) 0 0 80))) := by
  rw [b_131i186_0, c_296, am_ans_some, show (if (80 : Int32) < 80 then (80 : Int32) else 80) = 80 from rfl]
  refine (eq_copy2 (e := (.invokestatic 362, 3, 6, 0, 66)) (na := 80) (nb := 80) (by with_unfolding_all rfl) rfl rfl (by with_unfolding_all rfl) (by with_unfolding_all rfl) (by decide) (by decide) (by decide) ⟨by decide, by decide, by decide⟩).trans ?_
  exact eq_retV2 (e := (.return_, 1, 0, 0, 0)) (by with_unfolding_all rfl) rfl (by with_unfolding_all rfl)
set_option maxRecDepth 20000 in
theorem b_131i187_0 {d nS : Nat} {M : am_M} {Q : Option Value → am_H → Prop} : am_Wp (d + 1) 131 0 [.ref 74, .ref 32] [] (hp nS M) Q = am_Wp d 296 0 [.int 16, .int 16] [] (hp nS M) (fun v h1 => am_Wp (d + 1) 131 11 [.ref 74, .ref 32] (am_ans v [.int 0, .ref 32, .int 0, .ref 74]) h1 Q) := by
  refine (eq_run 8 (q := (8, [.ref 74, .ref 32], [.int 16, .int 16, .int 0, .ref 32, .int 0, .ref 74], hp nS M)) (by with_unfolding_all rfl)).trans ?_
  exact eq_call2 (e := (.invokestatic 359, 3, 1, 296, 65)) (as := [.int 16, .int 16]) (r := [.int 0, .ref 32, .int 0, .ref 74]) (n := 2) (m := 2) (by with_unfolding_all rfl) rfl (by decide) (by with_unfolding_all rfl) (by decide) (by with_unfolding_all rfl) ⟨fun z => absurd z (by decide), fun z => by simp at z⟩
-- b_131i187_11: copy
theorem k_74_32 {d nS : Nat} {M : am_M} {Q : Option Value → am_H → Prop} : am_Wp (d + 1) 131 0 [.ref 74, .ref 32] [] (hp nS M) Q = Q none (hp nS (am_row M 32 (va_cpy (M 74) (M 32) 0 0 16))) := by
  rw [b_131i187_0, c_296, am_ans_some, show (if (16 : Int32) < 16 then (16 : Int32) else 16) = 16 from rfl]
  refine (eq_copy2 (e := (.invokestatic 362, 3, 6, 0, 66)) (na := 16) (nb := 16) (by with_unfolding_all rfl) rfl rfl (by with_unfolding_all rfl) (by with_unfolding_all rfl) (by decide) (by decide) (by decide) ⟨by decide, by decide, by decide⟩).trans ?_
  exact eq_retV2 (e := (.return_, 1, 0, 0, 0)) (by with_unfolding_all rfl) rfl (by with_unfolding_all rfl)
set_option maxRecDepth 20000 in
theorem b_131i188_0 {d nS : Nat} {M : am_M} {Q : Option Value → am_H → Prop} : am_Wp (d + 1) 131 0 [.ref 75, .ref 33] [] (hp nS M) Q = am_Wp d 296 0 [.int 16, .int 16] [] (hp nS M) (fun v h1 => am_Wp (d + 1) 131 11 [.ref 75, .ref 33] (am_ans v [.int 0, .ref 33, .int 0, .ref 75]) h1 Q) := by
  refine (eq_run 8 (q := (8, [.ref 75, .ref 33], [.int 16, .int 16, .int 0, .ref 33, .int 0, .ref 75], hp nS M)) (by with_unfolding_all rfl)).trans ?_
  exact eq_call2 (e := (.invokestatic 359, 3, 1, 296, 65)) (as := [.int 16, .int 16]) (r := [.int 0, .ref 33, .int 0, .ref 75]) (n := 2) (m := 2) (by with_unfolding_all rfl) rfl (by decide) (by with_unfolding_all rfl) (by decide) (by with_unfolding_all rfl) ⟨fun z => absurd z (by decide), fun z => by simp at z⟩
-- b_131i188_11: copy
theorem k_75_33 {d nS : Nat} {M : am_M} {Q : Option Value → am_H → Prop} : am_Wp (d + 1) 131 0 [.ref 75, .ref 33] [] (hp nS M) Q = Q none (hp nS (am_row M 33 (va_cpy (M 75) (M 33) 0 0 16))) := by
  rw [b_131i188_0, c_296, am_ans_some, show (if (16 : Int32) < 16 then (16 : Int32) else 16) = 16 from rfl]
  refine (eq_copy2 (e := (.invokestatic 362, 3, 6, 0, 66)) (na := 16) (nb := 16) (by with_unfolding_all rfl) rfl rfl (by with_unfolding_all rfl) (by with_unfolding_all rfl) (by decide) (by decide) (by decide) ⟨by decide, by decide, by decide⟩).trans ?_
  exact eq_retV2 (e := (.return_, 1, 0, 0, 0)) (by with_unfolding_all rfl) rfl (by with_unfolding_all rfl)
set_option maxRecDepth 20000 in
theorem b_131i189_0 {d nS : Nat} {M : am_M} {Q : Option Value → am_H → Prop} : am_Wp (d + 1) 131 0 [.ref 76, .ref 34] [] (hp nS M) Q = am_Wp d 296 0 [.int 16, .int 16] [] (hp nS M) (fun v h1 => am_Wp (d + 1) 131 11 [.ref 76, .ref 34] (am_ans v [.int 0, .ref 34, .int 0, .ref 76]) h1 Q) := by
  refine (eq_run 8 (q := (8, [.ref 76, .ref 34], [.int 16, .int 16, .int 0, .ref 34, .int 0, .ref 76], hp nS M)) (by with_unfolding_all rfl)).trans ?_
  exact eq_call2 (e := (.invokestatic 359, 3, 1, 296, 65)) (as := [.int 16, .int 16]) (r := [.int 0, .ref 34, .int 0, .ref 76]) (n := 2) (m := 2) (by with_unfolding_all rfl) rfl (by decide) (by with_unfolding_all rfl) (by decide) (by with_unfolding_all rfl) ⟨fun z => absurd z (by decide), fun z => by simp at z⟩
-- b_131i189_11: copy
theorem k_76_34 {d nS : Nat} {M : am_M} {Q : Option Value → am_H → Prop} : am_Wp (d + 1) 131 0 [.ref 76, .ref 34] [] (hp nS M) Q = Q none (hp nS (am_row M 34 (va_cpy (M 76) (M 34) 0 0 16))) := by
  rw [b_131i189_0, c_296, am_ans_some, show (if (16 : Int32) < 16 then (16 : Int32) else 16) = 16 from rfl]
  refine (eq_copy2 (e := (.invokestatic 362, 3, 6, 0, 66)) (na := 16) (nb := 16) (by with_unfolding_all rfl) rfl rfl (by with_unfolding_all rfl) (by with_unfolding_all rfl) (by decide) (by decide) (by decide) ⟨by decide, by decide, by decide⟩).trans ?_
  exact eq_retV2 (e := (.return_, 1, 0, 0, 0)) (by with_unfolding_all rfl) rfl (by with_unfolding_all rfl)
set_option maxRecDepth 20000 in
theorem b_131i190_0 {d nS : Nat} {M : am_M} {Q : Option Value → am_H → Prop} : am_Wp (d + 1) 131 0 [.ref 77, .ref 35] [] (hp nS M) Q = am_Wp d 296 0 [.int 16, .int 16] [] (hp nS M) (fun v h1 => am_Wp (d + 1) 131 11 [.ref 77, .ref 35] (am_ans v [.int 0, .ref 35, .int 0, .ref 77]) h1 Q) := by
  refine (eq_run 8 (q := (8, [.ref 77, .ref 35], [.int 16, .int 16, .int 0, .ref 35, .int 0, .ref 77], hp nS M)) (by with_unfolding_all rfl)).trans ?_
  exact eq_call2 (e := (.invokestatic 359, 3, 1, 296, 65)) (as := [.int 16, .int 16]) (r := [.int 0, .ref 35, .int 0, .ref 77]) (n := 2) (m := 2) (by with_unfolding_all rfl) rfl (by decide) (by with_unfolding_all rfl) (by decide) (by with_unfolding_all rfl) ⟨fun z => absurd z (by decide), fun z => by simp at z⟩
-- b_131i190_11: copy
theorem k_77_35 {d nS : Nat} {M : am_M} {Q : Option Value → am_H → Prop} : am_Wp (d + 1) 131 0 [.ref 77, .ref 35] [] (hp nS M) Q = Q none (hp nS (am_row M 35 (va_cpy (M 77) (M 35) 0 0 16))) := by
  rw [b_131i190_0, c_296, am_ans_some, show (if (16 : Int32) < 16 then (16 : Int32) else 16) = 16 from rfl]
  refine (eq_copy2 (e := (.invokestatic 362, 3, 6, 0, 66)) (na := 16) (nb := 16) (by with_unfolding_all rfl) rfl rfl (by with_unfolding_all rfl) (by with_unfolding_all rfl) (by decide) (by decide) (by decide) ⟨by decide, by decide, by decide⟩).trans ?_
  exact eq_retV2 (e := (.return_, 1, 0, 0, 0)) (by with_unfolding_all rfl) rfl (by with_unfolding_all rfl)
set_option maxRecDepth 20000 in
theorem b_131i191_0 {d nS : Nat} {M : am_M} {Q : Option Value → am_H → Prop} : am_Wp (d + 1) 131 0 [.ref 82, .ref 40] [] (hp nS M) Q = am_Wp d 296 0 [.int 80, .int 80] [] (hp nS M) (fun v h1 => am_Wp (d + 1) 131 11 [.ref 82, .ref 40] (am_ans v [.int 0, .ref 40, .int 0, .ref 82]) h1 Q) := by
  refine (eq_run 8 (q := (8, [.ref 82, .ref 40], [.int 80, .int 80, .int 0, .ref 40, .int 0, .ref 82], hp nS M)) (by with_unfolding_all rfl)).trans ?_
  exact eq_call2 (e := (.invokestatic 359, 3, 1, 296, 65)) (as := [.int 80, .int 80]) (r := [.int 0, .ref 40, .int 0, .ref 82]) (n := 2) (m := 2) (by with_unfolding_all rfl) rfl (by decide) (by with_unfolding_all rfl) (by decide) (by with_unfolding_all rfl) ⟨fun z => absurd z (by decide), fun z => by simp at z⟩
-- b_131i191_11: copy
theorem k_82_40 {d nS : Nat} {M : am_M} {Q : Option Value → am_H → Prop} : am_Wp (d + 1) 131 0 [.ref 82, .ref 40] [] (hp nS M) Q = Q none (hp nS (am_row M 40 (va_cpy (M 82) (M 40) 0 0 80))) := by
  rw [b_131i191_0, c_296, am_ans_some, show (if (80 : Int32) < 80 then (80 : Int32) else 80) = 80 from rfl]
  refine (eq_copy2 (e := (.invokestatic 362, 3, 6, 0, 66)) (na := 80) (nb := 80) (by with_unfolding_all rfl) rfl rfl (by with_unfolding_all rfl) (by with_unfolding_all rfl) (by decide) (by decide) (by decide) ⟨by decide, by decide, by decide⟩).trans ?_
  exact eq_retV2 (e := (.return_, 1, 0, 0, 0)) (by with_unfolding_all rfl) rfl (by with_unfolding_all rfl)
set_option maxRecDepth 20000 in
theorem b_131i192_0 {d nS : Nat} {M : am_M} {Q : Option Value → am_H → Prop} : am_Wp (d + 1) 131 0 [.ref 84, .ref 42] [] (hp nS M) Q = am_Wp d 296 0 [.int 80, .int 80] [] (hp nS M) (fun v h1 => am_Wp (d + 1) 131 11 [.ref 84, .ref 42] (am_ans v [.int 0, .ref 42, .int 0, .ref 84]) h1 Q) := by
  refine (eq_run 8 (q := (8, [.ref 84, .ref 42], [.int 80, .int 80, .int 0, .ref 42, .int 0, .ref 84], hp nS M)) (by with_unfolding_all rfl)).trans ?_
  exact eq_call2 (e := (.invokestatic 359, 3, 1, 296, 65)) (as := [.int 80, .int 80]) (r := [.int 0, .ref 42, .int 0, .ref 84]) (n := 2) (m := 2) (by with_unfolding_all rfl) rfl (by decide) (by with_unfolding_all rfl) (by decide) (by with_unfolding_all rfl) ⟨fun z => absurd z (by decide), fun z => by simp at z⟩
-- b_131i192_11: copy
theorem k_84_42 {d nS : Nat} {M : am_M} {Q : Option Value → am_H → Prop} : am_Wp (d + 1) 131 0 [.ref 84, .ref 42] [] (hp nS M) Q = Q none (hp nS (am_row M 42 (va_cpy (M 84) (M 42) 0 0 80))) := by
  rw [b_131i192_0, c_296, am_ans_some, show (if (80 : Int32) < 80 then (80 : Int32) else 80) = 80 from rfl]
  refine (eq_copy2 (e := (.invokestatic 362, 3, 6, 0, 66)) (na := 80) (nb := 80) (by with_unfolding_all rfl) rfl rfl (by with_unfolding_all rfl) (by with_unfolding_all rfl) (by decide) (by decide) (by decide) ⟨by decide, by decide, by decide⟩).trans ?_
  exact eq_retV2 (e := (.return_, 1, 0, 0, 0)) (by with_unfolding_all rfl) rfl (by with_unfolding_all rfl)
set_option maxRecDepth 20000 in
theorem b_131i193_0 {d nS : Nat} {M : am_M} {Q : Option Value → am_H → Prop} : am_Wp (d + 1) 131 0 [.ref 86, .ref 44] [] (hp nS M) Q = am_Wp d 296 0 [.int 80, .int 80] [] (hp nS M) (fun v h1 => am_Wp (d + 1) 131 11 [.ref 86, .ref 44] (am_ans v [.int 0, .ref 44, .int 0, .ref 86]) h1 Q) := by
  refine (eq_run 8 (q := (8, [.ref 86, .ref 44], [.int 80, .int 80, .int 0, .ref 44, .int 0, .ref 86], hp nS M)) (by with_unfolding_all rfl)).trans ?_
  exact eq_call2 (e := (.invokestatic 359, 3, 1, 296, 65)) (as := [.int 80, .int 80]) (r := [.int 0, .ref 44, .int 0, .ref 86]) (n := 2) (m := 2) (by with_unfolding_all rfl) rfl (by decide) (by with_unfolding_all rfl) (by decide) (by with_unfolding_all rfl) ⟨fun z => absurd z (by decide), fun z => by simp at z⟩
-- b_131i193_11: copy
theorem k_86_44 {d nS : Nat} {M : am_M} {Q : Option Value → am_H → Prop} : am_Wp (d + 1) 131 0 [.ref 86, .ref 44] [] (hp nS M) Q = Q none (hp nS (am_row M 44 (va_cpy (M 86) (M 44) 0 0 80))) := by
  rw [b_131i193_0, c_296, am_ans_some, show (if (80 : Int32) < 80 then (80 : Int32) else 80) = 80 from rfl]
  refine (eq_copy2 (e := (.invokestatic 362, 3, 6, 0, 66)) (na := 80) (nb := 80) (by with_unfolding_all rfl) rfl rfl (by with_unfolding_all rfl) (by with_unfolding_all rfl) (by decide) (by decide) (by decide) ⟨by decide, by decide, by decide⟩).trans ?_
  exact eq_retV2 (e := (.return_, 1, 0, 0, 0)) (by with_unfolding_all rfl) rfl (by with_unfolding_all rfl)
set_option maxRecDepth 20000 in
theorem b_131i194_0 {d nS : Nat} {M : am_M} {Q : Option Value → am_H → Prop} : am_Wp (d + 1) 131 0 [.ref 88, .ref 46] [] (hp nS M) Q = am_Wp d 296 0 [.int 14, .int 14] [] (hp nS M) (fun v h1 => am_Wp (d + 1) 131 11 [.ref 88, .ref 46] (am_ans v [.int 0, .ref 46, .int 0, .ref 88]) h1 Q) := by
  refine (eq_run 8 (q := (8, [.ref 88, .ref 46], [.int 14, .int 14, .int 0, .ref 46, .int 0, .ref 88], hp nS M)) (by with_unfolding_all rfl)).trans ?_
  exact eq_call2 (e := (.invokestatic 359, 3, 1, 296, 65)) (as := [.int 14, .int 14]) (r := [.int 0, .ref 46, .int 0, .ref 88]) (n := 2) (m := 2) (by with_unfolding_all rfl) rfl (by decide) (by with_unfolding_all rfl) (by decide) (by with_unfolding_all rfl) ⟨fun z => absurd z (by decide), fun z => by simp at z⟩
-- b_131i194_11: copy
theorem k_88_46 {d nS : Nat} {M : am_M} {Q : Option Value → am_H → Prop} : am_Wp (d + 1) 131 0 [.ref 88, .ref 46] [] (hp nS M) Q = Q none (hp nS (am_row M 46 (va_cpy (M 88) (M 46) 0 0 14))) := by
  rw [b_131i194_0, c_296, am_ans_some, show (if (14 : Int32) < 14 then (14 : Int32) else 14) = 14 from rfl]
  refine (eq_copy2 (e := (.invokestatic 362, 3, 6, 0, 66)) (na := 14) (nb := 14) (by with_unfolding_all rfl) rfl rfl (by with_unfolding_all rfl) (by with_unfolding_all rfl) (by decide) (by decide) (by decide) ⟨by decide, by decide, by decide⟩).trans ?_
  exact eq_retV2 (e := (.return_, 1, 0, 0, 0)) (by with_unfolding_all rfl) rfl (by with_unfolding_all rfl)
set_option maxRecDepth 20000 in
theorem b_131i195_0 {d nS : Nat} {M : am_M} {Q : Option Value → am_H → Prop} : am_Wp (d + 1) 131 0 [.ref 93, .ref 51] [] (hp nS M) Q = am_Wp d 296 0 [.int 28, .int 28] [] (hp nS M) (fun v h1 => am_Wp (d + 1) 131 11 [.ref 93, .ref 51] (am_ans v [.int 0, .ref 51, .int 0, .ref 93]) h1 Q) := by
  refine (eq_run 8 (q := (8, [.ref 93, .ref 51], [.int 28, .int 28, .int 0, .ref 51, .int 0, .ref 93], hp nS M)) (by with_unfolding_all rfl)).trans ?_
  exact eq_call2 (e := (.invokestatic 359, 3, 1, 296, 65)) (as := [.int 28, .int 28]) (r := [.int 0, .ref 51, .int 0, .ref 93]) (n := 2) (m := 2) (by with_unfolding_all rfl) rfl (by decide) (by with_unfolding_all rfl) (by decide) (by with_unfolding_all rfl) ⟨fun z => absurd z (by decide), fun z => by simp at z⟩
-- b_131i195_11: copy
theorem k_93_51 {d nS : Nat} {M : am_M} {Q : Option Value → am_H → Prop} : am_Wp (d + 1) 131 0 [.ref 93, .ref 51] [] (hp nS M) Q = Q none (hp nS (am_row M 51 (va_cpy (M 93) (M 51) 0 0 28))) := by
  rw [b_131i195_0, c_296, am_ans_some, show (if (28 : Int32) < 28 then (28 : Int32) else 28) = 28 from rfl]
  refine (eq_copy2 (e := (.invokestatic 362, 3, 6, 0, 66)) (na := 28) (nb := 28) (by with_unfolding_all rfl) rfl rfl (by with_unfolding_all rfl) (by with_unfolding_all rfl) (by decide) (by decide) (by decide) ⟨by decide, by decide, by decide⟩).trans ?_
  exact eq_retV2 (e := (.return_, 1, 0, 0, 0)) (by with_unfolding_all rfl) rfl (by with_unfolding_all rfl)
set_option maxRecDepth 20000 in
theorem b_131i196_0 {d nS : Nat} {M : am_M} {Q : Option Value → am_H → Prop} : am_Wp (d + 1) 131 0 [.ref 97, .ref 55] [] (hp nS M) Q = am_Wp d 296 0 [.int 16, .int 16] [] (hp nS M) (fun v h1 => am_Wp (d + 1) 131 11 [.ref 97, .ref 55] (am_ans v [.int 0, .ref 55, .int 0, .ref 97]) h1 Q) := by
  refine (eq_run 8 (q := (8, [.ref 97, .ref 55], [.int 16, .int 16, .int 0, .ref 55, .int 0, .ref 97], hp nS M)) (by with_unfolding_all rfl)).trans ?_
  exact eq_call2 (e := (.invokestatic 359, 3, 1, 296, 65)) (as := [.int 16, .int 16]) (r := [.int 0, .ref 55, .int 0, .ref 97]) (n := 2) (m := 2) (by with_unfolding_all rfl) rfl (by decide) (by with_unfolding_all rfl) (by decide) (by with_unfolding_all rfl) ⟨fun z => absurd z (by decide), fun z => by simp at z⟩
-- b_131i196_11: copy
theorem k_97_55 {d nS : Nat} {M : am_M} {Q : Option Value → am_H → Prop} : am_Wp (d + 1) 131 0 [.ref 97, .ref 55] [] (hp nS M) Q = Q none (hp nS (am_row M 55 (va_cpy (M 97) (M 55) 0 0 16))) := by
  rw [b_131i196_0, c_296, am_ans_some, show (if (16 : Int32) < 16 then (16 : Int32) else 16) = 16 from rfl]
  refine (eq_copy2 (e := (.invokestatic 362, 3, 6, 0, 66)) (na := 16) (nb := 16) (by with_unfolding_all rfl) rfl rfl (by with_unfolding_all rfl) (by with_unfolding_all rfl) (by decide) (by decide) (by decide) ⟨by decide, by decide, by decide⟩).trans ?_
  exact eq_retV2 (e := (.return_, 1, 0, 0, 0)) (by with_unfolding_all rfl) rfl (by with_unfolding_all rfl)
set_option maxRecDepth 20000 in
theorem b_131i197_0 {d nS : Nat} {M : am_M} {Q : Option Value → am_H → Prop} : am_Wp (d + 1) 131 0 [.ref 98, .ref 56] [] (hp nS M) Q = am_Wp d 296 0 [.int 8, .int 8] [] (hp nS M) (fun v h1 => am_Wp (d + 1) 131 11 [.ref 98, .ref 56] (am_ans v [.int 0, .ref 56, .int 0, .ref 98]) h1 Q) := by
  refine (eq_run 8 (q := (8, [.ref 98, .ref 56], [.int 8, .int 8, .int 0, .ref 56, .int 0, .ref 98], hp nS M)) (by with_unfolding_all rfl)).trans ?_
  exact eq_call2 (e := (.invokestatic 359, 3, 1, 296, 65)) (as := [.int 8, .int 8]) (r := [.int 0, .ref 56, .int 0, .ref 98]) (n := 2) (m := 2) (by with_unfolding_all rfl) rfl (by decide) (by with_unfolding_all rfl) (by decide) (by with_unfolding_all rfl) ⟨fun z => absurd z (by decide), fun z => by simp at z⟩
-- b_131i197_11: copy
theorem k_98_56 {d nS : Nat} {M : am_M} {Q : Option Value → am_H → Prop} : am_Wp (d + 1) 131 0 [.ref 98, .ref 56] [] (hp nS M) Q = Q none (hp nS (am_row M 56 (va_cpy (M 98) (M 56) 0 0 8))) := by
  rw [b_131i197_0, c_296, am_ans_some, show (if (8 : Int32) < 8 then (8 : Int32) else 8) = 8 from rfl]
  refine (eq_copy2 (e := (.invokestatic 362, 3, 6, 0, 66)) (na := 8) (nb := 8) (by with_unfolding_all rfl) rfl rfl (by with_unfolding_all rfl) (by with_unfolding_all rfl) (by decide) (by decide) (by decide) ⟨by decide, by decide, by decide⟩).trans ?_
  exact eq_retV2 (e := (.return_, 1, 0, 0, 0)) (by with_unfolding_all rfl) rfl (by with_unfolding_all rfl)
set_option maxRecDepth 20000 in
theorem b_131i198_0 {d nS : Nat} {M : am_M} {Q : Option Value → am_H → Prop} : am_Wp (d + 1) 131 0 [.ref 99, .ref 57] [] (hp nS M) Q = am_Wp d 296 0 [.int 8, .int 8] [] (hp nS M) (fun v h1 => am_Wp (d + 1) 131 11 [.ref 99, .ref 57] (am_ans v [.int 0, .ref 57, .int 0, .ref 99]) h1 Q) := by
  refine (eq_run 8 (q := (8, [.ref 99, .ref 57], [.int 8, .int 8, .int 0, .ref 57, .int 0, .ref 99], hp nS M)) (by with_unfolding_all rfl)).trans ?_
  exact eq_call2 (e := (.invokestatic 359, 3, 1, 296, 65)) (as := [.int 8, .int 8]) (r := [.int 0, .ref 57, .int 0, .ref 99]) (n := 2) (m := 2) (by with_unfolding_all rfl) rfl (by decide) (by with_unfolding_all rfl) (by decide) (by with_unfolding_all rfl) ⟨fun z => absurd z (by decide), fun z => by simp at z⟩
-- b_131i198_11: copy
theorem k_99_57 {d nS : Nat} {M : am_M} {Q : Option Value → am_H → Prop} : am_Wp (d + 1) 131 0 [.ref 99, .ref 57] [] (hp nS M) Q = Q none (hp nS (am_row M 57 (va_cpy (M 99) (M 57) 0 0 8))) := by
  rw [b_131i198_0, c_296, am_ans_some, show (if (8 : Int32) < 8 then (8 : Int32) else 8) = 8 from rfl]
  refine (eq_copy2 (e := (.invokestatic 362, 3, 6, 0, 66)) (na := 8) (nb := 8) (by with_unfolding_all rfl) rfl rfl (by with_unfolding_all rfl) (by with_unfolding_all rfl) (by decide) (by decide) (by decide) ⟨by decide, by decide, by decide⟩).trans ?_
  exact eq_retV2 (e := (.return_, 1, 0, 0, 0)) (by with_unfolding_all rfl) rfl (by with_unfolding_all rfl)
