section
theorem Kq_law {nS c : Nat} {Mi N N2 : am_M} {s : St} {v : Int32} (hC : CI Mi N s) (hM : MI N s) (hG : GI c s) (h : KM (am_up N 205 0 0) N2 s.t.W s.t.B) : Kq nS c Mi v (some (.int v)) (hp nS N2) := Kq_mk hC (MI_KM (told_MI hM hG) hG h) (Fm_tr (Fm_up _ _ (by omega)) (Fm_KM h)) (GI_mono hG (by omega))
theorem KM_told {N : am_M} {s : St} (eW : s.t.W = N 206) (eB : s.t.B = N 211) : KM (am_up N 205 0 0) (am_up N 205 0 0) s.t.W s.t.B := ⟨by rw [up_ne _ _ _ (by decide)]; exact eW.symm, by rw [up_ne _ _ _ (by decide)]; exact eB.symm, fun _ _ _ _ _ => rfl⟩
theorem p_of {nS d c : Nat} {Mi M : am_M} {s : St} {x1 x2 : Int32} (hC : CI Mi M s) (hM : MI M s) (hG : GI c s) : prS nS (d + 12) c Mi 137 [.ref 16, .int x1, .int x2, .retAddr 0] 245 [.ref 205, .int x1, .int x2] M := by
  obtain ⟨s, hC, hM, hG, eW, eB⟩ := nrm hC hM hG
  have hT := told_MI hM hG
  have hG8 := hG.t.G8
  have hL6 := hG.t.L6
  have q0 : M 18 0 = nI s.t.x.L := hC.tw.w.fL
  unfold prS
  rw [b_137_0, c_104, am_ans_some, b_137_13]
  rcases rngH x1 s.t.x.L (nI s.t.x.L) rfl (by omega) with hn | ⟨hh, i, rfl, hi⟩
  · rw [ite1_f (by rw [q0]; exact hn), b_137_16]
    refine ⟨_, M, rfl, rfl, ?_⟩
    rw [b_245_0, c_177, am_ans_some, b_245_10, ite1_f (by rw [hT.tw.mx.fL]; exact hn), b_245_13]
    exact Kq_no hC hM hG
  have m0 : ∀ {N : am_M} {Q : Option Value → am_H → Prop}, MI N s → am_Wp (d + 12) 245 0 [.ref 205, .int (nI i), .int x2] [] (hp nS N) Q = am_Wp (d + 11 + 1) 245 15 [.ref 205, .int (nI i), .int x2] [] (hp nS (am_up N 205 0 0)) Q := by
    intro N Q hN
    rw [b_245_0, c_177, am_ans_some, b_245_10, ite1_t (by rw [(told_MI hN hG).tw.mx.fL]; exact hh)]
  have g19 : M 19 i = s.t.x.voice i := hC.tw.w.vo i (by omega)
  have g20 : M 20 i = s.t.W (4 + i) := hC.tw.w.he i (by omega)
  have g21 : M 21 i = s.t.W (10 + i) := hC.tw.w.tp i (by omega)
  have g22 : M 22 i = s.t.W (16 + i) := hC.tw.w.lo i (by omega)
  have g23 : M 23 i = s.t.W (22 + i) := hC.tw.w.sc i (by omega)
  rw [ite1_t (by rw [q0]; exact hh), b_137_18]
  by_cases e0 : x2 = 0
  · rw [if_pos e0, b_137_64 (by first | exact in_n (by omega) (by omega) | (simp only [li, nI_add, pk_mul]; exact in_n (by omega) (by omega))), cl_n (by omega), g19]
    refine ⟨_, M, rfl, rfl, ?_⟩
    rw [m0 hM, b_245_15, if_neg (fun z => z e0), b_245_19 (by first | exact in_n (by omega) (by omega) | (simp only [li, nI_add, pk_mul]; exact in_n (by omega) (by omega))), cl_n (by omega), hT.tw.mx.vo i (by omega)]
    exact Kq_no hC hM hG
  rw [if_neg e0]
  have m14 : ∀ (n : Nat), 1 ≤ n → n ≤ 4 → x2 = nI n → ∀ {Q : Option Value → am_H → Prop}, am_Wp (d + 12) 245 0 [.ref 205, .int (nI i), .int x2] [] (hp nS M) Q = Q (some (.int (s.t.W (4 + 6 * (n - 1) + i)))) (hp nS (am_up M 205 0 0)) := by
    intro n n1 n4 hx Q
    have ee : ((4 : Int32) + 6 * (nI n - 1)) + nI i = nI (4 + 6 * (n - 1) + i) := by
      rw [sub1 n1, show (6 : Int32) * nI (n - 1) = nI (6 * (n - 1)) from pk_mul 6 (n - 1), adl, nI_add]
    subst hx
    rw [m0 hM, b_245_15, if_pos e0, b_245_26, c_171, am_ans_some, b_245_33, ite0_t ⟨by rw [li, lt_n (by omega) (by omega)]; omega, by rw [li, lt_n (by omega) (by omega)]; omega⟩, b_245_36 (by rw [ee]; exact in_n (by omega) (by omega)), ee, cl_n (by omega), hT.tw.w _ (by omega)]
  by_cases e1 : x2 = 1
  · rw [if_pos e1, b_137_71 (by first | exact in_n (by omega) (by omega) | (simp only [li, nI_add, pk_mul]; exact in_n (by omega) (by omega))), cl_n (by omega), g20]
    refine ⟨_, M, rfl, rfl, ?_⟩
    rw [m14 1 (by omega) (by omega) e1]
    exact Kq_no hC hM hG
  rw [if_neg e1]
  by_cases e2 : x2 = 2
  · rw [if_pos e2, b_137_78 (by first | exact in_n (by omega) (by omega) | (simp only [li, nI_add, pk_mul]; exact in_n (by omega) (by omega))), cl_n (by omega), g21]
    refine ⟨_, M, rfl, rfl, ?_⟩
    rw [m14 2 (by omega) (by omega) e2]
    exact Kq_no hC hM hG
  rw [if_neg e2]
  by_cases e3 : x2 = 3
  · rw [if_pos e3, b_137_85 (by first | exact in_n (by omega) (by omega) | (simp only [li, nI_add, pk_mul]; exact in_n (by omega) (by omega))), cl_n (by omega), g22]
    refine ⟨_, M, rfl, rfl, ?_⟩
    rw [m14 3 (by omega) (by omega) e3]
    exact Kq_no hC hM hG
  rw [if_neg e3]
  by_cases e4 : x2 = 4
  · rw [if_pos e4, b_137_92 (by first | exact in_n (by omega) (by omega) | (simp only [li, nI_add, pk_mul]; exact in_n (by omega) (by omega))), cl_n (by omega), g23]
    refine ⟨_, M, rfl, rfl, ?_⟩
    rw [m14 4 (by omega) (by omega) e4]
    exact Kq_no hC hM hG
  rw [if_neg e4]
  have i14 : ¬ (¬ x2 < 1 ∧ ¬ 4 < x2) := by
    intro z
    rcases rng x2 1 4 1 4 rfl rfl (by omega) (by omega) with ⟨_, q⟩ | ⟨_, _, n, rfl, n1, n2⟩
    · exact q z
    · have : n = 1 ∨ n = 2 ∨ n = 3 ∨ n = 4 := by omega
      rcases this with rfl | rfl | rfl | rfl
      · exact e1 rfl
      · exact e2 rfl
      · exact e3 rfl
      · exact e4 rfl
  have m5 : ∀ {N : am_M} {Q : Option Value → am_H → Prop}, MI N s → am_Wp (d + 12) 245 0 [.ref 205, .int (nI i), .int x2] [] (hp nS N) Q = am_Wp (d + 11 + 1) 245 52 [.ref 205, .int (nI i), .int x2] [] (hp nS (am_up N 205 0 0)) Q := by
    intro N Q hN
    rw [m0 hN, b_245_15, if_pos e0, b_245_26, c_171, am_ans_some, b_245_33, ite0_f i14]
  have hA : ∀ w, ¬ w = 2 → okA w s.t.x (some i) none := fun w hw => ⟨fun l hl => (by cases hl; exact hi), fun k hk => (by cases hk), fun h => absurd h hw, fun _ => ⟨i, rfl⟩⟩
  by_cases e5 : x2 = 5
  · rw [if_pos e5, b_137_99]
    refine x_tel (w := 0) (mi := 0) (KC_of hC) (Sts_of hC hG) (some i) none (by omega) (hA 0 (by omega)) (fun M1 h1 => ?_)
    rw [am_ans_some, b_137_114]
    have hF := Fc_KC h1 (Or.inl rfl)
    have hC1 : CI Mi M1 s := CI_KC hC h1
    have hM1 : MI M1 s := MI_fr hM hG hF
    refine ⟨_, M1, rfl, rfl, ?_⟩
    rw [m5 hM1, b_245_52, if_neg (fun z => z e5), b_245_57]
    refine m_rises (mi := 0) (KM_told (s := s) (by rw [hF 206 (by omega)]; exact eW) (by rw [hF 211 (by omega)]; exact eB)) (Stm_of (told_MI hM1 hG) hG) hi (fun N2 h2 => ?_)
    rw [am_ans_some, b_245_63, b_245_96]
    exact Kq_law hC1 hM1 hG h2
  rw [if_neg e5]
  by_cases e6 : x2 = 6
  · rw [if_pos e6, b_137_115]
    refine x_tel (w := 1) (mi := 0) (KC_of hC) (Sts_of hC hG) (some i) none (by omega) (hA 1 (by omega)) (fun M1 h1 => ?_)
    rw [am_ans_some, b_137_130]
    have hF := Fc_KC h1 (Or.inl rfl)
    have hC1 : CI Mi M1 s := CI_KC hC h1
    have hM1 : MI M1 s := MI_fr hM hG hF
    refine ⟨_, M1, rfl, rfl, ?_⟩
    rw [m5 hM1, b_245_52, if_pos e5, b_245_66, if_neg (fun z => z e6), b_245_72]
    refine m_falls (mi := 0) (KM_told (s := s) (by rw [hF 206 (by omega)]; exact eW) (by rw [hF 211 (by omega)]; exact eB)) (Stm_of (told_MI hM1 hG) hG) hi (fun N2 h2 => ?_)
    rw [am_ans_some, b_245_78, b_245_96]
    exact Kq_law hC1 hM1 hG h2
  rw [if_neg e6]
  have hu6 : ∀ g, g < 8 → s.t.x.up g ≤ 6 := fun g hg => Nat.le_trans (hG.t.up g hg) hL6
  by_cases e7 : x2 = 7
  · rw [if_pos e7, b_137_131, x_goodsBy hC.tw.w hG8 hu6 (by omega), am_ans_some, b_137_136]
    refine ⟨_, M, rfl, rfl, ?_⟩
    rw [m5 hM, b_245_52, if_pos e5, b_245_66, if_pos e6, b_245_81, if_neg (fun z => z e7), b_245_87, m_goodsBy hT.tw.mx hG8 hu6 (by omega), am_ans_some, b_245_92, b_245_96]
    exact Kq_no hC hM hG
  rw [if_neg e7, b_137_137]
  refine ⟨_, M, rfl, rfl, ?_⟩
  rw [m5 hM, b_245_52, if_pos e5, b_245_66, if_pos e6, b_245_81, if_pos e7, b_245_95, b_245_96]
  exact Kq_no hC hM hG
theorem p_goodOf {nS d c : Nat} {Mi M : am_M} {s : St} {x1 x2 : Int32} (hC : CI Mi M s) (hM : MI M s) (hG : GI c s) : prS nS (d + 12) c Mi 138 [.ref 16, .int x1, .int x2, .retAddr 0] 247 [.ref 205, .int x1, .int x2, .retAddr 0, .retAddr 0] M := by
  obtain ⟨s, hC, hM, hG, eW, eB⟩ := nrm hC hM hG
  have hT := told_MI hM hG
  have hG8 := hG.t.G8
  have hT10 := hG.t.T10
  have q1 : M 18 1 = nI s.t.x.G := hC.tw.w.fG
  unfold prS
  rw [b_138_0, c_106, am_ans_some, b_138_13]
  rcases rngH x1 s.t.x.G (nI s.t.x.G) rfl (by omega) with hn | ⟨hh, i, rfl, hi⟩
  · rw [ite1_f (by rw [q1]; exact hn), b_138_16]
    refine ⟨_, M, rfl, rfl, ?_⟩
    rw [b_247_0, c_178, am_ans_some, b_247_10, ite0_f (by rw [hT.tw.mx.fG]; exact hn), b_247_23]
    exact Kq_no hC hM hG
  have g24 : M 24 i = s.t.x.base i := hC.tw.w.ba i (by omega)
  have g25 : M 25 i = nI (s.t.x.up i) - 1 := hC.tw.w.bb i (by omega)
  have g26 : M 26 i = s.t.W (28 + i) := hC.tw.w.pr i (by omega)
  have m0 : ∀ {N : am_M} {Q : Option Value → am_H → Prop}, MI N s → (¬ x2 < 0 ∧ ¬ 4 < x2) → am_Wp (d + 12) 247 0 [.ref 205, .int (nI i), .int x2, .retAddr 0, .retAddr 0] [] (hp nS N) Q = am_Wp (d + 11 + 1) 247 26 [.ref 205, .int (nI i), .int x2, .retAddr 0, .retAddr 0] [] (hp nS (am_up N 205 0 0)) Q := by
    intro N Q hN h04
    rw [b_247_0, c_178, am_ans_some, b_247_10, ite0_t (by rw [(told_MI hN hG).tw.mx.fG]; exact hh), b_247_13, c_171, am_ans_some, b_247_20, ite1_t h04]
  rw [ite1_t (by rw [q1]; exact hh), b_138_19]
  by_cases e0 : x2 = 0
  · rw [if_pos e0, b_138_56 (by first | exact in_n (by omega) (by omega) | (simp only [li, nI_add, pk_mul]; exact in_n (by omega) (by omega))), cl_n (by omega), g24]
    refine ⟨_, M, rfl, rfl, ?_⟩
    rw [m0 hM (by rw [e0]; decide), b_247_26, if_neg (fun z => z e0), b_247_30 (by first | exact in_n (by omega) (by omega) | (simp only [li, nI_add, pk_mul]; exact in_n (by omega) (by omega))), cl_n (by omega), hT.tw.mx.ba i (by omega)]
    exact Kq_no hC hM hG
  rw [if_neg e0]
  by_cases e1 : x2 = 1
  · rw [if_pos e1, b_138_63 (by first | exact in_n (by omega) (by omega) | (simp only [li, nI_add, pk_mul]; exact in_n (by omega) (by omega))), cl_n (by omega), g25]
    refine ⟨_, M, rfl, rfl, ?_⟩
    rw [m0 hM (by rw [e1]; decide), b_247_26, if_pos e0, b_247_37, if_neg (fun z => z e1), b_247_42 (by first | exact in_n (by omega) (by omega) | (simp only [li, nI_add, pk_mul]; exact in_n (by omega) (by omega))), cl_n (by omega), hT.tw.mx.up i (by omega)]
    exact Kq_no hC hM hG
  rw [if_neg e1]
  by_cases e2 : x2 = 2
  · rw [if_pos e2, b_138_70 (by first | exact in_n (by omega) (by omega) | (simp only [li, nI_add, pk_mul]; exact in_n (by omega) (by omega))), cl_n (by omega), g26]
    refine ⟨_, M, rfl, rfl, ?_⟩
    rw [m0 hM (by rw [e2]; decide), b_247_26, if_pos e0, b_247_37, if_pos e1, b_247_51, if_neg (fun z => z e2), b_247_56 (by rw [adl]; exact in_n (by omega) (by omega)), adl, cl_n (by omega), hT.tw.w _ (by omega)]
    exact Kq_no hC hM hG
  rw [if_neg e2]
  by_cases e3 : x2 = 3
  · rw [if_pos e3, b_138_77 (by first | exact in_n (by omega) (by omega) | (simp only [li, nI_add, pk_mul]; exact in_n (by omega) (by omega))), cl_n (by omega), g25, oU_I]
    refine x_tel (w := 2) (mi := 0) (KC_of hC) (Sts_of hC hG) (oU s.t.x i) (some i) (by omega) (oU_ok (hG.t.up i (by omega)) hi) (fun M1 h1 => ?_)
    rw [am_ans_some, b_138_97]
    have hF := Fc_KC h1 (Or.inl rfl)
    have hC1 : CI Mi M1 s := CI_KC hC h1
    have hM1 : MI M1 s := MI_fr hM hG hF
    refine ⟨_, M1, rfl, rfl, ?_⟩
    rw [m0 hM1 (by rw [e3]; decide), b_247_26, if_pos e0, b_247_37, if_pos e1, b_247_51, if_pos e2, b_247_66, if_neg (fun z => z e3), b_247_71]
    refine m_asksFor (KM_told (s := s) (by rw [hF 206 (by omega)]; exact eW) (by rw [hF 211 (by omega)]; exact eB)) (Stm_of (told_MI hM1 hG) hG) hi (fun N2 h2 => ?_)
    rw [am_ans_some, b_247_76]
    exact Kq_law hC1 hM1 hG h2
  rw [if_neg e3]
  by_cases e4 : x2 = 4
  · rw [if_pos e4, b_138_98, x_stockAll hC.tw.w hT10 (by omega), am_ans_some, b_138_103]
    refine ⟨_, M, rfl, rfl, ?_⟩
    rw [m0 hM (by rw [e4]; decide), b_247_26, if_pos e0, b_247_37, if_pos e1, b_247_51, if_pos e2, b_247_66, if_pos e3, m_stockAll hT.tw.mx hT.tw.w hT10 (by omega)]
    exact Kq_no hC hM hG
  rw [if_neg e4, b_138_104]
  refine ⟨_, M, rfl, rfl, ?_⟩
  have i04 : ¬ (¬ x2 < 0 ∧ ¬ 4 < x2) := by
    intro z
    rcases rng x2 0 4 0 4 rfl rfl (by omega) (by omega) with ⟨_, q⟩ | ⟨_, _, n, rfl, n1, n2⟩
    · exact q z
    · have : n = 0 ∨ n = 1 ∨ n = 2 ∨ n = 3 ∨ n = 4 := by omega
      rcases this with rfl | rfl | rfl | rfl | rfl
      · exact e0 rfl
      · exact e1 rfl
      · exact e2 rfl
      · exact e3 rfl
      · exact e4 rfl
  rw [b_247_0, c_178, am_ans_some, b_247_10, ite0_t (by rw [hT.tw.mx.fG]; exact hh), b_247_13, c_171, am_ans_some, b_247_20, ite1_f i04, b_247_23]
  exact Kq_no hC hM hG
end
