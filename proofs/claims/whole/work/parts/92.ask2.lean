section
theorem rngz (x lo hi : Int32) (n : Nat) (hlo : lo.toInt = -n) (hhi : hi = nI n) (hn : n ≤ 1000000) : ((x < lo ∨ ¬ x ≤ hi) ∧ ¬ (¬ x < lo ∧ ¬ hi < x)) ∨ (¬ (x < lo ∨ ¬ x ≤ hi) ∧ (¬ x < lo ∧ ¬ hi < x) ∧ (-(n : Int) ≤ x.toInt ∧ x.toInt ≤ n) ∧ ∃ k, x = nI k - hi ∧ k ≤ 2 * n) := by
  by_cases h1 : x < lo
  · exact Or.inl ⟨Or.inl h1, fun z => z.1 h1⟩
  · by_cases h2 : hi < x
    · exact Or.inl ⟨Or.inr (not_le' h2), fun z => z.2 h2⟩
    · refine Or.inr ⟨fun z => z.elim h1 (fun z => z (le_of' h2)), ⟨h1, h2⟩, ?_⟩
      have b1 : -(n : Int) ≤ x.toInt := by
        have := Int32.le_iff_toInt_le.mp (le_of' h1)
        omega
      have b2 : x.toInt ≤ n := by
        have := Int32.le_iff_toInt_le.mp (le_of' h2)
        rw [hhi, nI_toInt (by omega)] at this
        exact this
      refine ⟨⟨b1, b2⟩, (x.toInt + n).toNat, ?_, by omega⟩
      refine int_eq ?_
      rw [hhi, zI_n, zI_n, zI_sub, zI_toInt (by omega) (by omega)]
      omega
theorem p_fifths {nS d c : Nat} {Mi M : am_M} {s : St} {x1 x2 : Int32} (hC : CI Mi M s) (hM : MI M s) (hG : GI c s) : prS nS (d + 12) c Mi 156 [.ref 16, .int x1, .int x2] 278 [.ref 205, .int x1, .int x2, .retAddr 0, .retAddr 0] M := by
  unfold prS
  rw [b_156_0, c_125, am_ans_some, b_156_8]
  rcases rngz x1 (-12) 12 12 (by decide) rfl (by omega) with ⟨o1, i1⟩ | ⟨o1, i1, _, k, rfl, hk⟩
  · rw [ite1_t o1, b_156_20]
    refine ⟨_, M, rfl, rfl, ?_⟩
    rw [b_278_0, c_171, am_ans_some, b_278_14, ite0_f i1, b_278_27]
    exact Kq_no hC hM hG
  rw [ite1_f o1, b_156_11, c_125, am_ans_some, b_156_17]
  rcases rng x2 0 1 0 1 rfl rfl (by omega) (by omega) with ⟨o2, i2⟩ | ⟨o2, i2, w, rfl, w1, w2⟩
  · rw [ite0_t o2, b_156_20]
    refine ⟨_, M, rfl, rfl, ?_⟩
    rw [b_278_0, c_171, am_ans_some, b_278_14, ite0_t i1, b_278_17, c_171, am_ans_some, b_278_24, ite1_f i2, b_278_27]
    exact Kq_no hC hM hG
  have hf := List.all_eq_true.mp (List.all_eq_true.mp fin_fifths k (List.mem_range.mpr (by omega))) w (List.mem_range.mpr (by omega))
  obtain ⟨y, y1, y2⟩ := am_both_s hf
  rw [ite0_f o2, b_156_22, (f_86_ok 100).1 y1, am_ans_some, b_156_27]
  refine ⟨_, M, rfl, rfl, ?_⟩
  rw [b_278_0, c_171, am_ans_some, b_278_14, ite0_t i1, b_278_17, c_171, am_ans_some, b_278_24, ite1_t i2, (f_278_ok 100).1 y2]
  exact Kq_no hC hM hG
theorem p_twos {nS d c : Nat} {Mi M : am_M} {s : St} {x1 x2 : Int32} (hC : CI Mi M s) (hM : MI M s) (hG : GI c s) : prS nS (d + 12) c Mi 152 [.ref 16, .int x1, .int x2, .retAddr 0] 275 [.ref 205, .int x1, .int x2, .retAddr 0, .retAddr 0, .retAddr 0, .retAddr 0] M := by
  unfold prS
  rw [b_152_0, c_125, am_ans_some, b_152_10]
  rcases rngz x1 (-9999) 9999 9999 (by decide) rfl (by omega) with ⟨o1, i1⟩ | ⟨o1, i1, ⟨b1, b2⟩, _⟩
  · rw [ite1_t o1, b_152_22]
    refine ⟨_, M, rfl, rfl, ?_⟩
    rw [b_275_0, c_171, am_ans_some, b_275_16, ite0_f i1, b_275_29]
    exact Kq_no hC hM hG
  rw [ite1_f o1, b_152_13, c_125, am_ans_some, b_152_19]
  rcases rng x2 0 1 0 1 rfl rfl (by omega) (by omega) with ⟨o2, i2⟩ | ⟨o2, i2, hw⟩
  · rw [ite0_t o2, b_152_22]
    refine ⟨_, M, rfl, rfl, ?_⟩
    rw [b_275_0, c_171, am_ans_some, b_275_16, ite0_t i1, b_275_19, c_171, am_ans_some, b_275_26, ite1_f i2, b_275_29]
    exact Kq_no hC hM hG
  have mo : ∀ {Q : Option Value → am_H → Prop}, am_Wp (d + 12) 275 0 [.ref 205, .int x1, .int x2, .retAddr 0, .retAddr 0, .retAddr 0, .retAddr 0] [] (hp nS M) Q = am_Wp (d + 11 + 1) 275 39 [.ref 205, .int x1, .int x2, .int 0, .int 0, .int x1, .retAddr 0] [] (hp nS (am_up M 205 0 0)) Q := by
    intro Q
    rw [b_275_0, c_171, am_ans_some, b_275_16, ite0_t i1, b_275_19, c_171, am_ans_some, b_275_26, ite1_t i2, b_275_31]
  have hE := tw_e 14 x1 (by omega) (by omega) (by omega)
  have hx : ∀ Q, am_Wp (d + 11) 81 6 [.int x1, .int 0, .int x1, .int (nI 0), .retAddr 0] [] (hp nS M) Q = Q (some (.int (tw 16 0 0 x1).1)) (hp nS M) := fun Q => x_twos 16 0 0 x1 (.retAddr 0) hE (by omega)
  by_cases hz : x1 = 0
  · subst hz
    have et : (tw 16 0 0 0).1 = 0 := by decide
    have m2 : ∀ {Q : Option Value → am_H → Prop}, am_Wp (d + 12) 275 0 [.ref 205, .int 0, .int x2, .retAddr 0, .retAddr 0, .retAddr 0, .retAddr 0] [] (hp nS M) Q = if ¬ x2 = 0 then am_Wp (d + 11 + 1) 275 91 [.ref 205, .int 0, .int x2, .int 0, .int 1, .int 0, .int 0] [] (hp nS (am_up M 205 0 0)) Q else am_Wp (d + 11 + 1) 275 86 [.ref 205, .int 0, .int x2, .int 0, .int 1, .int 0, .int 0] [] (hp nS (am_up M 205 0 0)) Q := by
      intro Q
      rw [mo, b_275_39, if_neg (fun z => z rfl), b_275_44, if_neg (fun z => z rfl), b_275_49, show (0 : Int32) ||| (((0 : Int32) &&& 1) <<< ((0 : Int32) &&& 31)) = 0 from by decide, show (0 : Int32) + 1 = 1 from by decide, show ((0 : Int32) - ((0 : Int32) &&& 1)) / (-2) = 0 from by decide, show (0 : Int32) &&& 1 = 0 from by decide, b_275_39, if_neg (fun z => z rfl), b_275_44, if_pos (by decide), b_275_82]
    rw [ite0_f o2, b_152_24, b_81_0]
    refine Eq.mpr (hx _) ?_
    rw [et, am_ans_some, b_152_28]
    rcases r_m1 hw with rfl | rfl
    · rw [if_pos (by decide), b_152_38, b_82_0, b_82_2, if_neg (by decide), b_82_8, if_pos (by decide), b_82_20, am_ans_some, b_152_42]
      refine ⟨_, M, rfl, rfl, ?_⟩
      rw [m2, if_neg (fun z => z rfl), b_275_86, b_275_92]
      exact Kq_no hC hM hG
    · rw [if_neg (fun z => z rfl), b_152_34, b_152_42]
      refine ⟨_, M, rfl, rfl, ?_⟩
      rw [m2, if_pos (by decide), b_275_91, b_275_92]
      exact Kq_no hC hM hG
  · obtain ⟨k1, k31, kt, kz⟩ := tw_top 16 0 0 x1 hE (by omega) (by omega) (by omega) (fun j _ _ => b_0 j) (Or.inl hz)
    rw [ite0_f o2, b_152_24, b_81_0]
    refine Eq.mpr (hx _) ?_
    rw [am_ans_some, b_152_28]
    rcases r_m1 hw with rfl | rfl
    · rw [if_pos (by decide), b_152_38, x_length k1 k31 kt kz, am_ans_some, b_152_42]
      refine ⟨_, M, rfl, rfl, ?_⟩
      obtain ⟨z', hm⟩ := m_twos (d := d + 11 + 1) (nS := nS) (M := am_up M 205 0 0) (x1 := x1) (x2 := 0) (Q := Kq nS c Mi (nI (tw 16 0 0 x1).2)) 16 0 0 x1 (.retAddr 0) hE (by omega) (Or.inr hz)
      rw [mo]
      refine Eq.mpr hm ?_
      rw [b_275_82, if_neg (fun z => z rfl), b_275_86, b_275_92]
      exact Kq_no hC hM hG
    · rw [if_neg (fun z => z rfl), b_152_34, b_152_42]
      refine ⟨_, M, rfl, rfl, ?_⟩
      obtain ⟨z', hm⟩ := m_twos (d := d + 11 + 1) (nS := nS) (M := am_up M 205 0 0) (x1 := x1) (x2 := 1) (Q := Kq nS c Mi (tw 16 0 0 x1).1) 16 0 0 x1 (.retAddr 0) hE (by omega) (Or.inr hz)
      rw [mo]
      refine Eq.mpr hm ?_
      rw [b_275_82, if_pos (by decide), b_275_91, b_275_92]
      exact Kq_no hC hM hG
theorem p_game {nS d c : Nat} {Mi M : am_M} {s : St} {x1 x2 x3 : Int32} (hC : CI Mi M s) (hM : MI M s) (hG : GI c s) : prS nS (d + 12) c Mi 162 [.ref 16, .int x1, .int x2, .int x3] 288 [.ref 205, .int x1, .int x2, .int x3, .retAddr 0, .retAddr 0] M := by
  unfold prS
  have m0 : ∀ {x1 x2 x3 : Int32} {Q : Option Value → am_H → Prop}, am_Wp (d + 12) 288 0 [.ref 205, .int x1, .int x2, .int x3, .retAddr 0, .retAddr 0] [] (hp nS M) Q = if (if (¬ x2 < 1 ∧ ¬ 100 < x2) then (1 : Int32) else 0) = 0 then am_Wp (d + 11 + 1) 288 39 [.ref 205, .int x1, .int x2, .int x3, .retAddr 0, .retAddr 0] [] (hp nS (am_up M 205 0 0)) Q else am_Wp (d + 11 + 1) 288 16 [.ref 205, .int x1, .int x2, .int x3, .retAddr 0, .retAddr 0] [] (hp nS (am_up M 205 0 0)) Q := by
    intro x1 x2 x3 Q
    rw [b_288_0, c_171, am_ans_some, b_288_13]
  have m1 : ∀ {x1 x2 x3 : Int32} {Q : Option Value → am_H → Prop}, (¬ x2 < 1 ∧ ¬ 100 < x2) → am_Wp (d + 12) 288 0 [.ref 205, .int x1, .int x2, .int x3, .retAddr 0, .retAddr 0] [] (hp nS M) Q = if (if (¬ x1 < 0 ∧ ¬ x2 - 1 < x1) then (1 : Int32) else 0) = 0 then am_Wp (d + 11 + 1) 288 39 [.ref 205, .int x1, .int x2, .int x3, .retAddr 0, .retAddr 0] [] (hp nS (am_up M 205 0 0)) Q else am_Wp (d + 11 + 1) 288 28 [.ref 205, .int x1, .int x2, .int x3, .retAddr 0, .retAddr 0] [] (hp nS (am_up M 205 0 0)) Q := by
    intro x1 x2 x3 Q h
    rw [m0, ite0_t h, b_288_16, c_171, am_ans_some, b_288_25]
  rw [b_162_0, c_125, am_ans_some, b_162_7]
  rcases rng x1 0 99 0 99 rfl rfl (by omega) (by omega) with ⟨o1, i1⟩ | ⟨o1, i1, a, rfl, a1, a2⟩
  · rw [ite1_t o1, b_162_35]
    refine ⟨_, M, rfl, rfl, ?_⟩
    rcases rng x2 1 100 1 100 rfl rfl (by omega) (by omega) with ⟨o2, i2⟩ | ⟨o2, i2, b, rfl, b1, b2⟩
    · rw [m0, ite0_f i2, b_288_39]
      exact Kq_no hC hM hG
    · rw [m1 i2, ite0_f, b_288_39]
      · exact Kq_no hC hM hG
      · rintro ⟨z1, z2⟩
        refine i1 ⟨z1, fun z => z2 ?_⟩
        rw [sub1 (by omega)]
        exact Int32.lt_of_le_of_lt ((nI_leI (a := b - 1) (b := 99) (by omega) (by omega)).mpr (by omega)) z
  rw [ite1_f o1, b_162_10, c_125, am_ans_some, b_162_17]
  rcases rng x2 1 100 1 100 rfl rfl (by omega) (by omega) with ⟨o2, i2⟩ | ⟨o2, i2, b, rfl, b1, b2⟩
  · rw [ite1_t o2, b_162_35]
    refine ⟨_, M, rfl, rfl, ?_⟩
    rw [m0, ite0_f i2, b_288_39]
    exact Kq_no hC hM hG
  rw [ite1_f o2, b_162_20]
  by_cases hab : a < b
  · have i3 : ¬ nI a < 0 ∧ ¬ nI b - 1 < nI a := ⟨i1.1, by rw [sub1 (by omega), lt_n (by omega) (by omega)]; omega⟩
    rw [if_neg (by rw [le_n (by omega) (by omega)]; omega), b_162_25, c_125, am_ans_some, b_162_32]
    rcases rng x3 2 9 2 9 rfl rfl (by omega) (by omega) with ⟨o4, i4⟩ | ⟨o4, i4, w, rfl, w1, w2⟩
    · rw [ite0_t o4, b_162_35]
      refine ⟨_, M, rfl, rfl, ?_⟩
      rw [m1 i2, ite0_t i3, b_288_28, c_171, am_ans_some, b_288_36, ite1_f i4, b_288_39]
      exact Kq_no hC hM hG
    · obtain ⟨tb, htb⟩ := gm_ex b w
      rw [ite0_f o4, b_162_37]
      refine x_game tb htb (by omega) w2 hab (fun r => ?_)
      rw [am_ans_some, b_162_47]
      obtain ⟨hC1, hM1⟩ := cs_scr (M1 := am_row M 204 r) hC hM hG (fun a k h => row_pt M _ _ (by unfold sC at h; omega))
      refine ⟨_, _, rfl, rfl, ?_⟩
      rw [b_288_0, c_171, am_ans_some, b_288_13, ite0_t i2, b_288_16, c_171, am_ans_some, b_288_25, ite0_t i3, b_288_28, c_171, am_ans_some, b_288_36, ite1_t i4]
      refine m_game tb htb (by omega) w2 hab (fun r' => ?_)
      exact Kq_scr hC1 hM1 hG (fun a k h => by rw [row_pt _ _ _ (by unfold sM at h; omega)]; exact e_told _ a k h)
  · rw [if_pos (by rw [le_n (by omega) (by omega)]; omega), b_162_35]
    refine ⟨_, M, rfl, rfl, ?_⟩
    rw [m1 i2, ite0_f, b_288_39]
    · exact Kq_no hC hM hG
    · rintro ⟨z1, z2⟩
      rw [sub1 (by omega), lt_n (by omega) (by omega)] at z2
      omega
theorem p_shares {nS d c : Nat} {Mi M : am_M} {s : St} {x1 x2 : Int32} (hC : CI Mi M s) (hM : MI M s) (hG : GI c s) : prS nS (d + 12) c Mi 161 [.ref 16, .int x1, .int x2] 286 [.ref 205, .int x1, .int x2] M := by
  unfold prS
  rw [b_161_0, c_125, am_ans_some, b_161_7]
  rcases rng x1 1 60 1 60 rfl rfl (by omega) (by omega) with ⟨o1, i1⟩ | ⟨o1, i1, n, rfl, n1, n2⟩
  · rw [ite0_t o1, b_161_10]
    refine ⟨_, M, rfl, rfl, ?_⟩
    rw [b_286_0, c_171, am_ans_some, b_286_13, ite1_f i1, b_286_16]
    exact Kq_no hC hM hG
  have scr : ∀ r : Rw, CI Mi (am_row M 203 r) s ∧ MI (am_row M 203 r) s := fun r => cs_scr hC hM hG (fun a k h => row_pt M _ _ (by unfold sC at h; omega))
  have fin : ∀ (r r' : Rw) (v : Int32), Kq nS c Mi v (some (.int v)) (hp nS (am_row (am_up (am_row M 203 r) 205 0 0) 236 r')) := fun r r' v => Kq_scr (scr r).1 (scr r).2 hG (fun a k h => by rw [row_pt _ _ _ (by unfold sM at h; omega)]; exact e_told _ a k h)
  rw [ite0_f o1, b_161_12]
  by_cases e0 : x2 = 0
  · subst e0
    have hK : stp n 1 n := ⟨fun i hi => by omega, by omega⟩
    rw [if_neg (fun z => z rfl), b_161_16]
    refine x_unlike n2 (fun r => ?_)
    rw [am_ans_some, b_161_24]
    refine ⟨_, _, rfl, rfl, ?_⟩
    rw [b_286_0, c_171, am_ans_some, b_286_13, ite1_t i1, b_286_18, if_pos rfl, b_286_27, if_neg (fun z => z rfl), b_286_34, b_286_39, if_pos (by decide), b_286_48, b_286_49]
    refine m_shares (un := true) (odd := false) n2 n2 rfl hK (fun r' => ?_)
    rw [am_ans_some, b_286_52]
    exact fin r r' _
  rw [if_pos e0, b_161_25]
  by_cases e1 : x2 = 1
  · subst e1
    obtain ⟨K, _, hK⟩ := stp_ex n 2 (by omega)
    rw [if_neg (fun z => z rfl), b_161_30]
    refine x_parts (step := 2) (odd := true) n2 n2 rfl hK (fun r => ?_)
    rw [am_ans_some, b_161_40]
    refine ⟨_, _, rfl, rfl, ?_⟩
    rw [b_286_0, c_171, am_ans_some, b_286_13, ite1_t i1, b_286_18, if_neg e0, b_286_22, if_neg (fun z => z rfl), b_286_27, if_pos e0, b_286_38, b_286_39, if_neg (fun z => z rfl), b_286_44, b_286_49]
    refine m_shares (un := false) (odd := true) n2 n2 rfl hK (fun r' => ?_)
    rw [am_ans_some, b_286_52]
    exact fin r r' _
  rw [if_pos e1, b_161_41, c_125, am_ans_some, b_161_50]
  rcases rng x2 101 160 101 160 rfl rfl (by omega) (by omega) with ⟨o2, i2⟩ | ⟨o2, i2, w, rfl, w1, w2⟩
  · rw [ite0_t o2, b_161_53, b_161_70]
    refine ⟨_, M, rfl, rfl, ?_⟩
    rw [b_286_0, c_171, am_ans_some, b_286_13, ite1_t i1, b_286_18, if_neg e0, b_286_22, if_pos e1, b_286_53, c_171, am_ans_some, b_286_63, ite0_f i2, b_286_80, b_286_81]
    exact Kq_no hC hM hG
  · obtain ⟨K, _, hK⟩ := stp_ex (w - 100) 1 (by omega)
    have es : nI w - 100 = nI (w - 100) := sub_n (b := 100) (by omega)
    rw [ite0_f o2, b_161_57, es]
    refine x_parts (step := 1) (odd := false) n2 (by omega) rfl hK (fun r => ?_)
    rw [am_ans_some, b_161_70]
    refine ⟨_, _, rfl, rfl, ?_⟩
    rw [b_286_0, c_171, am_ans_some, b_286_13, ite1_t i1, b_286_18, if_neg e0, b_286_22, if_pos e1, b_286_53, c_171, am_ans_some, b_286_63, ite0_t i2, b_286_66, es]
    refine m_shares (un := false) (odd := false) n2 (by omega) rfl hK (fun r' => ?_)
    rw [am_ans_some, b_286_77, b_286_81]
    exact fin r r' _
theorem p_round {nS d c : Nat} {Mi M : am_M} {s : St} {x1 x2 : Int32} (hC : CI Mi M s) (hM : MI M s) (hG : GI c s) : prS nS (d + 12) c Mi 147 [.ref 16, .int x1, .int x2] 265 [.ref 205, .int x1, .int x2, .retAddr 0, .retAddr 0, .retAddr 0, .retAddr 0] M := by
  unfold prS
  rw [b_147_0, c_125, am_ans_some, b_147_6]
  rcases rng x1 0 3 0 3 rfl rfl (by omega) (by omega) with ⟨o1, i1⟩ | ⟨o1, i1, a, rfl, a1, a2⟩
  · rw [ite1_t o1, b_147_18]
    refine ⟨_, M, rfl, rfl, ?_⟩
    rw [b_265_0, c_171, am_ans_some, b_265_12, ite0_f i1, b_265_25]
    exact Kq_no hC hM hG
  rw [ite1_f o1, b_147_9, c_125, am_ans_some, b_147_15]
  rcases rng x2 0 1 0 1 rfl rfl (by omega) (by omega) with ⟨o2, i2⟩ | ⟨o2, i2, _⟩
  · rw [ite0_t o2, b_147_18]
    refine ⟨_, M, rfl, rfl, ?_⟩
    rw [b_265_0, c_171, am_ans_some, b_265_12, ite0_t i1, b_265_15, c_171, am_ans_some, b_265_22, ite1_f i2, b_265_25]
    exact Kq_no hC hM hG
  rw [ite0_f o2, b_147_20]
  refine x_round s.t.rt hC.tw.rt hG.t.rt (by omega) (fun st u v hb hs => ?_)
  rw [am_ans_some, b_147_32]
  obtain ⟨hC1, hM1⟩ := cs_scr (M1 := two M 54 5 6 u v) hC hM hG (fun a k h => by
    unfold two
    rw [up_pt _ _ (by unfold sC at h; omega), up_pt _ _ (by unfold sC at h; omega)])
  refine ⟨_, _, rfl, rfl, ?_⟩
  rw [b_265_0, c_171, am_ans_some, b_265_12, ite0_t i1, b_265_15, c_171, am_ans_some, b_265_22, ite1_t i2]
  refine m_round s.t.rt (told_MI hM1 hG).tw.rt hG.t.rt (by omega) (hG.t.r0 a (by omega)) (fun st' u' v' hb' hs' => ?_)
  rw [rd_eq x2 hs hs' hb hb']
  exact Kq_scr hC1 hM1 hG (fun a k h => by
    unfold two
    rw [up_pt _ _ (by unfold sM at h; omega), up_pt _ _ (by unfold sM at h; omega)]
    exact e_told _ a k h)
theorem p_caught {nS d c : Nat} {Mi M : am_M} {s : St} {x1 x2 : Int32} (hC : CI Mi M s) (hM : MI M s) (hG : GI c s) : prS nS (d + 12) c Mi 158 [.ref 16, .int x1, .int x2] 280 [.ref 205, .int x1, .int x2, .retAddr 0, .retAddr 0, .retAddr 0] M := by
  unfold prS
  rw [b_158_0, c_125, am_ans_some, b_158_7]
  rcases rng x1 0 7 0 7 rfl rfl (by omega) (by omega) with ⟨o1, i1⟩ | ⟨o1, i1, a, rfl, a1, a2⟩
  · rw [ite1_t o1, b_158_20]
    refine ⟨_, M, rfl, rfl, ?_⟩
    rw [b_280_0, c_171, am_ans_some, b_280_13, ite0_f i1, b_280_27]
    exact Kq_no hC hM hG
  rw [ite1_f o1, b_158_10, c_125, am_ans_some, b_158_17]
  rcases rng x2 0 7 0 7 rfl rfl (by omega) (by omega) with ⟨o2, i2⟩ | ⟨o2, i2, b, rfl, b1, b2⟩
  · rw [ite0_t o2, b_158_20]
    refine ⟨_, M, rfl, rfl, ?_⟩
    rw [b_280_0, c_171, am_ans_some, b_280_13, ite0_t i1, b_280_16, c_171, am_ans_some, b_280_24, ite1_f i2, b_280_27]
    exact Kq_no hC hM hG
  obtain ⟨N, hN64, hN⟩ := tnN_ex (fun p q => decide (p = q) || wyB s.t.ea s.t.eb s.t.wn p q)
  rw [ite0_f o2, b_158_22]
  refine x_goings s.t.ea s.t.eb (fun p q => decide (p = q) || wyB s.t.ea s.t.eb s.t.wn p q) hC.tw.wn hG.t.w14 (fun i hi => ⟨(hC.tw.we i hi).1, (hC.tw.we i hi).2, (hG.t.we i hi).1, (hG.t.we i hi).2⟩) (fun p q _ _ => rfl) hN hN64 (by omega) (by omega) (fun r r' => ?_)
  rw [am_ans_some, b_158_34]
  obtain ⟨hC1, hM1⟩ := cs_scr (M1 := am_row (am_row M 52 r) 53 r') hC hM hG (fun a k h => by rw [row_pt _ _ _ (by unfold sC at h; omega), row_pt _ _ _ (by unfold sC at h; omega)])
  refine ⟨_, _, rfl, rfl, ?_⟩
  rw [b_280_0, c_171, am_ans_some, b_280_13, ite0_t i1, b_280_16, c_171, am_ans_some, b_280_24, ite1_t i2]
  refine m_caught (fun p q => decide (p = q) || wyB s.t.ea s.t.eb s.t.wn p q) (fun p q hp hq => by rw [(told_MI hM1 hG).tw.wy p q hp hq]) hN hN64 (by omega) (by omega) (fun r2 => ?_)
  exact Kq_scr hC1 hM1 hG (fun a k h => by rw [row_pt _ _ _ (by unfold sM at h; omega)]; exact e_told _ a k h)
end
