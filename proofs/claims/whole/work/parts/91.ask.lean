section
/-! CALLS THAT ONLY ASK -/
def Kq (nS c : Nat) (Mi : am_M) (v : Int32) (o2 : Option Value) (h2 : am_H) : Prop := o2 = some (.int v) ∧ ∃ M2 s2, h2 = hp nS M2 ∧ CI Mi M2 s2 ∧ MI M2 s2 ∧ GI (c + 1) s2
def prS (nS d c : Nat) (Mi : am_M) (mc : Nat) (ac : List Value) (mm : Nat) (am : List Value) (M : am_M) : Prop := am_Wp d mc 0 ac [] (hp nS M) (fun o h => ∃ v M1, o = some (.int v) ∧ h = hp nS M1 ∧ am_Wp d mm 0 am [] (hp nS M1) (Kq nS c Mi v))
theorem up_pt (M : am_M) {a0 k0 a k : Nat} (v : Int32) (h : ¬ (a = a0 ∧ k = k0)) : am_up M a0 k0 v a k = M a k := by
  by_cases c : a = a0
  · subst c
    rw [up_same, upd_ne _ _ (fun z => h ⟨rfl, z⟩)]
  · rw [up_ne _ _ _ c]
theorem row_pt (M : am_M) {a0 a : Nat} (r : Rw) (k : Nat) (h : a ≠ a0) : am_row M a0 r a k = M a k := by rw [row_ne _ _ h]
theorem Kq_scr {nS c : Nat} {Mi M1 M2 : am_M} {s : St} {v : Int32} (hC : CI Mi M1 s) (hM : MI M1 s) (hG : GI c s) (e : ∀ a k, ¬ (205 ≤ a ∧ sM a k) → M2 a k = M1 a k) : Kq nS c Mi v (some (.int v)) (hp nS M2) := ⟨rfl, M2, s, rfl, CI_of hC (fun a k ha _ => e a k (by omega)), MI_of hM hG (fun a k ha hs => e a k (fun z => hs z.2)), GI_mono hG (by omega)⟩
theorem cs_scr {c : Nat} {Mi M M1 : am_M} {s : St} (hC : CI Mi M s) (hM : MI M s) (hG : GI c s) (e : ∀ a k, ¬ (a < 205 ∧ sC a k) → M1 a k = M a k) : CI Mi M1 s ∧ MI M1 s := ⟨CI_of hC (fun a k ha hs => e a k (fun z => hs z.2)), MI_of hM hG (fun a k ha hs => e a k (by omega))⟩
theorem rng (x lo hi : Int32) (a b : Nat) (hlo : lo = nI a) (hhi : hi = nI b) (hb : b < 2147483647) (ha : a ≤ b) : ((x < lo ∨ ¬ x ≤ hi) ∧ ¬ (¬ x < lo ∧ ¬ hi < x)) ∨ (¬ (x < lo ∨ ¬ x ≤ hi) ∧ (¬ x < lo ∧ ¬ hi < x) ∧ ∃ k, x = nI k ∧ a ≤ k ∧ k ≤ b) := by
  subst hlo hhi
  by_cases h1 : x < nI a
  · exact Or.inl ⟨Or.inl h1, fun z => z.1 h1⟩
  · by_cases h2 : nI b < x
    · exact Or.inl ⟨Or.inr (not_le' h2), fun z => z.2 h2⟩
    · exact Or.inr ⟨fun z => z.elim h1 (fun z => z (le_of' h2)), ⟨h1, h2⟩, in_ex h1 h2 hb (by omega)⟩
/-- told: what the model sets at the start of each call -/
theorem e_told (M : am_M) : ∀ a k, ¬ (205 ≤ a ∧ sM a k) → am_up M 205 0 0 a k = M a k := fun a k h => up_pt M _ (fun z => h ⟨by omega, by unfold sM; omega⟩)
theorem told_MI {M : am_M} {s : St} {c : Nat} (hM : MI M s) (hG : GI c s) : MI (am_up M 205 0 0) s := MI_of hM hG (fun a k ha hs => e_told M a k (fun z => hs z.2))
theorem told_CI {Mi M : am_M} {s : St} (hC : CI Mi M s) : CI Mi (am_up M 205 0 0) s := CI_fr hC (Fm_up _ _ (by omega))
/-- both refuse -/
theorem Kq_no {nS c : Nat} {Mi M : am_M} {s : St} {v : Int32} (hC : CI Mi M s) (hM : MI M s) (hG : GI c s) : Kq nS c Mi v (some (.int v)) (hp nS (am_up M 205 0 0)) := Kq_scr hC hM hG (e_told M)
theorem r_m1 {x2 : Int32} (h : ∃ k, x2 = nI k ∧ 0 ≤ k ∧ k ≤ 1) : x2 = 0 ∨ x2 = 1 := by
  obtain ⟨k, rfl, _, h⟩ := h
  have : k = 0 ∨ k = 1 := by omega
  rcases this with rfl | rfl
  · exact Or.inl rfl
  · exact Or.inr rfl
theorem p_loaves {nS d c : Nat} {Mi M : am_M} {s : St} {x1 x2 x3 : Int32} (hC : CI Mi M s) (hM : MI M s) (hG : GI c s) : prS nS (d + 12) c Mi 150 [.ref 16, .int x1, .int x2, .int x3, .retAddr 0] 271 [.ref 205, .int x1, .int x2, .int x3, .retAddr 0] M := by
  unfold prS
  rw [b_150_0, c_125, am_ans_some, b_150_7]
  rcases rng x1 1 60 1 60 rfl rfl (by omega) (by omega) with ⟨o1, i1⟩ | ⟨o1, i1, a, rfl, a1, a2⟩
  · rw [ite1_t o1, b_150_29]
    refine ⟨_, M, rfl, rfl, ?_⟩
    rw [b_271_0, c_171, am_ans_some, b_271_13, ite0_f i1, b_271_37]
    exact Kq_no hC hM hG
  rw [ite1_f o1, b_150_10, c_125, am_ans_some, b_150_17]
  rcases rng x2 1 60 1 60 rfl rfl (by omega) (by omega) with ⟨o2, i2⟩ | ⟨o2, i2, b, rfl, b1, b2⟩
  · rw [ite1_t o2, b_150_29]
    refine ⟨_, M, rfl, rfl, ?_⟩
    rw [b_271_0, c_171, am_ans_some, b_271_13, ite0_t i1, b_271_16, c_171, am_ans_some, b_271_24, ite0_f i2, b_271_37]
    exact Kq_no hC hM hG
  rw [ite1_f o2, b_150_20, c_125, am_ans_some, b_150_26]
  rcases rng x3 0 2 0 2 rfl rfl (by omega) (by omega) with ⟨o3, i3⟩ | ⟨o3, i3, _⟩
  · rw [ite0_t o3, b_150_29]
    refine ⟨_, M, rfl, rfl, ?_⟩
    rw [b_271_0, c_171, am_ans_some, b_271_13, ite0_t i1, b_271_16, c_171, am_ans_some, b_271_24, ite0_t i2, b_271_27, c_171, am_ans_some, b_271_34, ite1_f i3, b_271_37]
    exact Kq_no hC hM hG
  have gp : 0 < Nat.gcd b a := Nat.gcd_pos_of_pos_left _ (by omega)
  have gl : Nat.gcd b a ≤ b := Nat.gcd_le_left _ (by omega)
  have hne : ¬ nI (Nat.gcd b a) = 0 := nI_ne0 gp (by omega)
  rw [ite0_f o3, b_150_31, x_common (by omega) (by omega), am_ans_some, if_neg (by omega), b_150_36]
  have mo : ∀ {Q : Option Value → am_H → Prop}, am_Wp (d + 12) 271 0 [.ref 205, .int (nI a), .int (nI b), .int x3, .retAddr 0] [] (hp nS M) Q = if ¬ x3 = 0 then am_Wp (d + 11 + 1) 271 60 [.ref 205, .int (nI a), .int (nI b), .int x3, .int (nI (Nat.gcd b a))] [] (hp nS (am_up M 205 0 0)) Q else am_Wp (d + 11 + 1) 271 51 [.ref 205, .int (nI a), .int (nI b), .int x3, .int (nI (Nat.gcd b a))] [] (hp nS (am_up M 205 0 0)) Q := by
    intro Q
    rw [b_271_0, c_171, am_ans_some, b_271_13, ite0_t i1, b_271_16, c_171, am_ans_some, b_271_24, ite0_t i2, b_271_27, c_171, am_ans_some, b_271_34, ite1_t i3, b_271_39, m_gcd (by omega) (by omega), am_ans_some, b_271_45]
  by_cases e0 : x3 = 0
  · rw [if_neg (fun z => z e0), b_150_42]
    refine ⟨_, M, rfl, rfl, ?_⟩
    rw [mo, if_neg (fun z => z e0), b_271_51, b_271_76]
    exact Kq_no hC hM hG
  · rw [if_pos e0, b_150_49]
    by_cases e1 : x3 = 1
    · rw [if_neg (fun z => z e1), b_150_54 hne, b_150_65]
      refine ⟨_, M, rfl, rfl, ?_⟩
      rw [mo, if_pos e0, b_271_60, if_neg (fun z => z e1), b_271_65 hne, b_271_76]
      exact Kq_no hC hM hG
    · rw [if_pos e1, b_150_61 hne, b_150_65]
      refine ⟨_, M, rfl, rfl, ?_⟩
      rw [mo, if_pos e0, b_271_60, if_pos e1, b_271_72 hne, b_271_76]
      exact Kq_no hC hM hG
theorem p_words {nS d c : Nat} {Mi M : am_M} {s : St} {x1 x2 : Int32} (hC : CI Mi M s) (hM : MI M s) (hG : GI c s) (h2 : T2 Mi) (h3 : T3 Mi) : prS nS (d + 12) c Mi 153 [.ref 16, .int x1, .int x2] 276 [.ref 205, .int x1, .int x2, .retAddr 0, .retAddr 0] M := by
  have t2 : T2 M := fun hk => by rw [hC.lo 2 (by omega)]; exact h2 hk
  have t3 : T3 M := fun hk => by rw [hC.lo 3 (by omega)]; exact h3 hk
  have t231 : T231 (am_up M 205 0 0) := fun {k} hk => by rw [up_ne _ _ _ (by decide)]; exact hM.t1 k hk
  unfold prS
  rw [b_153_0, c_125, am_ans_some, b_153_8]
  rcases rng x1 0 999 0 999 rfl rfl (by omega) (by omega) with ⟨o1, i1⟩ | ⟨o1, i1, a, rfl, a1, a2⟩
  · rw [ite1_t o1, b_153_20]
    refine ⟨_, M, rfl, rfl, ?_⟩
    rw [b_276_0, c_171, am_ans_some, b_276_14, ite0_f i1, b_276_27]
    exact Kq_no hC hM hG
  rw [ite1_f o1, b_153_11, c_125, am_ans_some, b_153_17]
  rcases rng x2 0 1 0 1 rfl rfl (by omega) (by omega) with ⟨o2, i2⟩ | ⟨o2, i2, _⟩
  · rw [ite0_t o2, b_153_20]
    refine ⟨_, M, rfl, rfl, ?_⟩
    rw [b_276_0, c_171, am_ans_some, b_276_14, ite0_t i1, b_276_17, c_171, am_ans_some, b_276_24, ite1_f i2, b_276_27]
    exact Kq_no hC hM hG
  rw [ite0_f o2, b_153_22]
  by_cases e0 : x2 = 0
  · rw [if_neg (fun z => z e0), b_153_26, f_83_ok t2 t3 5 (ltr_2 (by omega)).1, am_ans_some, b_153_30, b_153_37]
    refine ⟨_, M, rfl, rfl, ?_⟩
    rw [b_276_0, c_171, am_ans_some, b_276_14, ite0_t i1, b_276_17, c_171, am_ans_some, b_276_24, ite1_t i2, b_276_29, if_neg (fun z => z e0), b_276_33, f_277_ok t231 5 (ltr_2 (by omega)).2, am_ans_some, b_276_38]
    exact Kq_no hC hM hG
  · rw [if_pos e0, b_153_33, x_longest t2 t3 (by omega), am_ans_some, b_153_37]
    refine ⟨_, M, rfl, rfl, ?_⟩
    rw [b_276_0, c_171, am_ans_some, b_276_14, ite0_t i1, b_276_17, c_171, am_ans_some, b_276_24, ite1_t i2, b_276_29, if_pos e0, m_longest t231 (by omega)]
    exact Kq_no hC hM hG
theorem p_parts {nS d c : Nat} {Mi M : am_M} {s : St} {x1 x2 x3 : Int32} (hC : CI Mi M s) (hM : MI M s) (hG : GI c s) : prS nS (d + 12) c Mi 149 [.ref 16, .int x1, .int x2, .int x3] 270 [.ref 205, .int x1, .int x2, .int x3, .retAddr 0, .retAddr 0, .retAddr 0, .retAddr 0, .retAddr 0, .retAddr 0] M := by
  unfold prS
  rw [b_149_0, c_125, am_ans_some, b_149_7]
  have m0 : ∀ {x1 x2 x3 : Int32} {Q : Option Value → am_H → Prop}, am_Wp (d + 12) 270 0 [.ref 205, .int x1, .int x2, .int x3, .retAddr 0, .retAddr 0, .retAddr 0, .retAddr 0, .retAddr 0, .retAddr 0] [] (hp nS M) Q = if (if (¬ x2 < 1 ∧ ¬ 12 < x2) then (1 : Int32) else 0) = 0 then am_Wp (d + 11 + 1) 270 38 [.ref 205, .int x1, .int x2, .int x3, .retAddr 0, .retAddr 0, .retAddr 0, .retAddr 0, .retAddr 0, .retAddr 0] [] (hp nS (am_up M 205 0 0)) Q else am_Wp (d + 11 + 1) 270 16 [.ref 205, .int x1, .int x2, .int x3, .retAddr 0, .retAddr 0, .retAddr 0, .retAddr 0, .retAddr 0, .retAddr 0] [] (hp nS (am_up M 205 0 0)) Q := by
    intro x1 x2 x3 Q
    rw [b_270_0, c_171, am_ans_some, b_270_13]
  have m1 : ∀ {x1 x2 x3 : Int32} {Q : Option Value → am_H → Prop}, (¬ x2 < 1 ∧ ¬ 12 < x2) → am_Wp (d + 12) 270 0 [.ref 205, .int x1, .int x2, .int x3, .retAddr 0, .retAddr 0, .retAddr 0, .retAddr 0, .retAddr 0, .retAddr 0] [] (hp nS M) Q = if (if (¬ x1 < 1 ∧ ¬ x2 - 1 < x1) then (1 : Int32) else 0) = 0 then am_Wp (d + 11 + 1) 270 38 [.ref 205, .int x1, .int x2, .int x3, .retAddr 0, .retAddr 0, .retAddr 0, .retAddr 0, .retAddr 0, .retAddr 0] [] (hp nS (am_up M 205 0 0)) Q else am_Wp (d + 11 + 1) 270 28 [.ref 205, .int x1, .int x2, .int x3, .retAddr 0, .retAddr 0, .retAddr 0, .retAddr 0, .retAddr 0, .retAddr 0] [] (hp nS (am_up M 205 0 0)) Q := by
    intro x1 x2 x3 Q h
    rw [m0, ite0_t h, b_270_16, c_171, am_ans_some, b_270_25]
  have m2 : ∀ {x1 x2 x3 : Int32} {Q : Option Value → am_H → Prop}, (¬ x2 < 1 ∧ ¬ 12 < x2) → (¬ x1 < 1 ∧ ¬ x2 - 1 < x1) → am_Wp (d + 12) 270 0 [.ref 205, .int x1, .int x2, .int x3, .retAddr 0, .retAddr 0, .retAddr 0, .retAddr 0, .retAddr 0, .retAddr 0] [] (hp nS M) Q = if ¬ (if (¬ x3 < 0 ∧ ¬ 4 < x3) then (1 : Int32) else 0) = 0 then am_Wp (d + 11 + 1) 270 40 [.ref 205, .int x1, .int x2, .int x3, .retAddr 0, .retAddr 0, .retAddr 0, .retAddr 0, .retAddr 0, .retAddr 0] [] (hp nS (am_up M 205 0 0)) Q else am_Wp (d + 11 + 1) 270 38 [.ref 205, .int x1, .int x2, .int x3, .retAddr 0, .retAddr 0, .retAddr 0, .retAddr 0, .retAddr 0, .retAddr 0] [] (hp nS (am_up M 205 0 0)) Q := by
    intro x1 x2 x3 Q h h'
    rw [m1 h, ite0_t h', b_270_28, c_171, am_ans_some, b_270_35]
  rcases rng x1 1 12 1 12 rfl rfl (by omega) (by omega) with ⟨o1, i1⟩ | ⟨o1, i1, a, rfl, a1, a2⟩
  · rw [ite1_t o1, b_149_34]
    refine ⟨_, M, rfl, rfl, ?_⟩
    rcases rng x2 1 12 1 12 rfl rfl (by omega) (by omega) with ⟨o2, i2⟩ | ⟨o2, i2, b, rfl, b1, b2⟩
    · rw [m0, ite0_f i2, b_270_38]
      exact Kq_no hC hM hG
    · rw [m1 i2, ite0_f, b_270_38]
      · exact Kq_no hC hM hG
      · rintro ⟨z1, z2⟩
        refine i1 ⟨z1, fun z => z2 ?_⟩
        rw [sub1 (by omega)]
        exact Int32.lt_of_le_of_lt ((nI_leI (a := b - 1) (b := 12) (by omega) (by omega)).mpr (by omega)) z
  rw [ite1_f o1, b_149_10, c_125, am_ans_some, b_149_17]
  rcases rng x2 1 12 1 12 rfl rfl (by omega) (by omega) with ⟨o2, i2⟩ | ⟨o2, i2, b, rfl, b1, b2⟩
  · rw [ite1_t o2, b_149_34]
    refine ⟨_, M, rfl, rfl, ?_⟩
    rw [m0, ite0_f i2, b_270_38]
    exact Kq_no hC hM hG
  rw [ite1_f o2, b_149_20]
  by_cases hab : a < b
  · have i3 : ¬ nI a < 1 ∧ ¬ nI b - 1 < nI a := ⟨i1.1, by rw [sub1 (by omega), lt_n (by omega) (by omega)]; omega⟩
    rw [if_neg (by rw [le_n (by omega) (by omega)]; omega), b_149_25, c_125, am_ans_some, b_149_31]
    rcases rng x3 0 4 0 4 rfl rfl (by omega) (by omega) with ⟨o4, i4⟩ | ⟨o4, i4, w, rfl, w1, w2⟩
    · rw [ite0_t o4, b_149_34]
      refine ⟨_, M, rfl, rfl, ?_⟩
      rw [m2 i2 i3, ite1_f i4, b_270_38]
      exact Kq_no hC hM hG
    · have hf := List.all_eq_true.mp (List.all_eq_true.mp (List.all_eq_true.mp fin_parts b (List.mem_range.mpr (by omega))) a (List.mem_range.mpr (by omega))) w (List.mem_range.mpr (by omega))
      rw [decide_eq_true a1, decide_eq_true hab] at hf
      obtain ⟨y, y1, y2⟩ := am_both_s (by simpa using hf)
      rw [ite0_f o4, b_149_36, (f_78_ok 100).1 y1, am_ans_some, b_149_42]
      refine ⟨_, M, rfl, rfl, ?_⟩
      rw [m2 i2 i3, ite1_t i4, (f_270_ok 100).1 y2]
      exact Kq_no hC hM hG
  · rw [if_pos (by rw [le_n (by omega) (by omega)]; omega), b_149_34]
    refine ⟨_, M, rfl, rfl, ?_⟩
    rw [m1 i2, ite0_f, b_270_38]
    · exact Kq_no hC hM hG
    · rintro ⟨z1, z2⟩
      rw [sub1 (by omega), lt_n (by omega) (by omega)] at z2
      omega
theorem p_sticks {nS d c : Nat} {Mi M : am_M} {s : St} {x1 x2 : Int32} (hC : CI Mi M s) (hM : MI M s) (hG : GI c s) (h1 : T1 Mi) : prS nS (d + 12) c Mi 151 [.ref 16, .int x1, .int x2] 272 [.ref 205, .int x1, .int x2] M := by
  have t1 : T1 M := fun hk => by rw [hC.lo 1 (by omega)]; exact h1 hk
  have t230 : T230 (am_up M 205 0 0) := fun {k} hk => by rw [up_ne _ _ _ (by decide)]; exact hM.t0 k hk
  unfold prS
  rw [b_151_0]
  by_cases e0 : x2 = 0
  · rw [if_neg (fun z => z e0), b_151_4, c_125, am_ans_some, b_151_12]
    rcases rng x1 0 99999 0 99999 rfl rfl (by omega) (by omega) with ⟨o1, i1⟩ | ⟨o1, i1, a, rfl, a1, a2⟩
    · rw [ite1_t o1, b_151_20, if_pos (by rw [e0]; decide), b_151_42, b_151_43]
      refine ⟨_, M, rfl, rfl, ?_⟩
      rw [b_272_0, if_neg (fun z => z e0), b_272_9, c_171, am_ans_some, b_272_18, ite0_f i1, b_272_29, b_272_30]
      exact Kq_no hC hM hG
    · rw [ite1_f o1, b_151_15, x_sticks t1 a2, am_ans_some, b_151_19]
      refine ⟨_, M, rfl, rfl, ?_⟩
      rw [b_272_0, if_neg (fun z => z e0), b_272_9, c_171, am_ans_some, b_272_18, ite0_t i1, b_272_21, m_sticks t230 a2, am_ans_some, b_272_26, b_272_30]
      exact Kq_no hC hM hG
  · rw [if_pos e0, b_151_20]
    by_cases e1 : x2 = 1
    · rw [if_neg (fun z => z e1), b_151_25, c_125, am_ans_some, b_151_32]
      rcases rng x1 2 42 2 42 rfl rfl (by omega) (by omega) with ⟨o1, i1⟩ | ⟨o1, i1, a, rfl, a1, a2⟩
      · rw [ite1_t o1, b_151_42, b_151_43]
        refine ⟨_, M, rfl, rfl, ?_⟩
        rw [b_272_0, if_pos e0, b_272_31, if_neg (fun z => z e1), b_272_36, c_171, am_ans_some, b_272_44, ite0_f i1, b_272_55, b_272_56]
        exact Kq_no hC hM hG
      · have hf := List.all_eq_true.mp fin_least (a - 2) (List.mem_range.mpr (by omega))
        rw [show a - 2 + 2 = a by omega] at hf
        obtain ⟨y, y1, y2⟩ := am_both_s hf
        rw [ite1_f o1, b_151_35, (f_80_ok t1 200).1 y1, am_ans_some, b_151_39, b_151_43]
        refine ⟨_, M, rfl, rfl, ?_⟩
        rw [b_272_0, if_pos e0, b_272_31, if_neg (fun z => z e1), b_272_36, c_171, am_ans_some, b_272_44, ite0_t i1, b_272_47, (f_274_ok t230 200).1 y2, am_ans_some, b_272_52, b_272_56]
        exact Kq_no hC hM hG
    · rw [if_pos e1, b_151_42, b_151_43]
      refine ⟨_, M, rfl, rfl, ?_⟩
      rw [b_272_0, if_pos e0, b_272_31, if_pos e1, b_272_55, b_272_56]
      exact Kq_no hC hM hG
end
