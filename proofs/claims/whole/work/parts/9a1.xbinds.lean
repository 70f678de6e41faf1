section
/-! TEXT 3, THE PROGRAM: the lines bind the goods -/
theorem x_binds {d nS : Nat} {x : Cx} {t : Bd} {M : am_M} {Q : Option Value → am_H → Prop} (hn : t.1 ≤ 16) (h1 : M 43 1 = nI t.1) (hr : ∀ i, i < t.1 → M 44 (5 * i) = nI (t.2.1 i) ∧ M 44 (5 * i + 1) = nI (t.2.2 i)) (hb : ∀ i, i < t.1 → t.2.1 i < x.G ∧ t.2.2 i < x.L) (hG : M 18 1 = nI x.G) (h8 : x.G ≤ 8) (h6 : x.L ≤ 6) (hQ : ∀ M', (∀ g, g < 8 → M' 25 g = nI (upB t.2.1 t.2.2 t.1 g) - 1) → (∀ a q, ¬ a = 25 → M' a q = M a q) → Q none (hp nS M')) : am_Wp (d + 1) 118 0 [.ref 18, .ref 43, .retAddr 0, .retAddr 0] [] (hp nS M) Q := by
  have key : ∀ m i A z, i + m = t.1 → (∀ g, g < 8 → A 25 g = nI (upB t.2.1 t.2.2 i g) - 1) → (∀ a q, ¬ a = 25 → A a q = M a q) → am_Wp (d + 1) 118 10 [.ref 18, .ref 43, .int (nI i), z] [] (hp nS A) Q := by
    intro m
    induction m with
    | zero =>
      intro i A z hi h f
      have e1 : A 43 1 = nI t.1 := by rw [f _ _ (by decide)]; exact h1
      have hit : i = t.1 := by omega
      rw [b_118i2_10, e1, if_pos (by rw [le_n (by omega) (by omega)]; omega), b_118i2_51]
      exact hQ A (hit ▸ h) f
    | succ m ih =>
      intro i A z hi h f
      have e1 : A 43 1 = nI t.1 := by rw [f _ _ (by decide)]; exact h1
      have a0 : nI i * 5 = nI (5 * i) := by rw [Nat.mul_comm]; exact pk_mul i 5
      have a1 : nI (5 * i) + 0 = nI (5 * i) := nI_add _ 0
      have a2 : nI (5 * i) + 1 = nI (5 * i + 1) := nI_1 _
      obtain ⟨r1, r2⟩ := hr i (by omega)
      obtain ⟨b1, b2⟩ := hb i (by omega)
      have c1 : A 44 (5 * i) = nI (t.2.1 i) := by rw [f _ _ (by decide)]; exact r1
      have c2 : A 44 (5 * i + 1) = nI (t.2.2 i) := by rw [f _ _ (by decide)]; exact r2
      have cG : A 18 1 = nI x.G := by rw [f _ _ (by decide)]; exact hG
      have yes : ¬ nI (t.2.1 i) < 0 ∧ ¬ A 18 1 ≤ nI (t.2.1 i) := ⟨Int32.not_lt.mpr (n0 (by omega)), by rw [cG, le_n (by omega) (by omega)]; omega⟩
      rw [b_118i2_10, e1, if_neg (by rw [le_n (by omega) (by omega)]; omega), b_118i2_18, c_33i2 (by rw [a0, a1]; exact in_n (by omega) (by omega)), a0, a1, cl_n (by omega), c1, am_ans_some, b_118i2_24, c_106, am_ans_some, b_118i2_30, if_pos yes, if_neg (by decide), b_118i2_33, c_33i2 (by rw [a0, a2]; exact in_n (by omega) (by omega)), a0, a2, cl_n (by omega), c2, am_ans_some, b_118i2_44 (in_n (by omega) (by omega)), cl_n (by omega), b_118i2_45, nI_1]
      refine ih (i + 1) _ _ (by omega) (fun g hg => ?_) (fun a q ha => ?_)
      · rw [upB_s]
        by_cases e : t.2.1 i = g
        · rw [if_pos e, e, up_same, upd_same, sub1 (by omega)]; rfl
        · rw [if_neg e, up_pt _ _ (by omega)]; exact h g hg
      · rw [up_pt _ _ (by omega)]; exact f a q ha
  rw [b_118i2_0, fill_25, am_ans_none, b_118i2_8]
  exact key t.1 0 _ _ (by omega) (fun g hg => by rw [row_same]; exact if_pos hg) (fun a q ha => by rw [row_ne _ _ (by omega)])
end
