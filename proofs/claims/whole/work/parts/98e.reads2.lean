section
theorem pos_ex {x : Int32} (h : ¬ x < 0) : ∃ k, x = nI k ∧ k < 2147483648 := by
  have h1 : (0 : Int32) ≤ x := le_of' h
  have h2 := Int32.le_iff_toInt_le.mp h1
  have h3 : (0 : Int32).toInt = 0 := by decide
  have h4 := Int32.toInt_lt x
  rw [h3] at h2
  refine ⟨x.toInt.toNat, int_eq ?_, by omega⟩
  rw [nI_toInt (by omega)]
  omega
theorem m1_eq2 : ∀ x, x < 7 → ∀ a, a < 6 → (nI x - 1 = nI a ↔ x = a + 1) := by decide +kernel
def gFy (x : Cx) (l g : Nat) : Int32 := if x.up g = l + 1 then 1 else 0
theorem x_goodsBy {d nS l : Nat} {x : Cx} {W : Rw} {M : am_M} {Q : Option Value → am_H → Prop} (h : CW 18 M x W) (hG : x.G ≤ 8) (hu : ∀ g, g < 8 → x.up g ≤ 6) (hl : l < 6) : am_Wp d 119 0 [.ref 18, .int (nI l), .retAddr 0, .retAddr 0] [] (hp nS M) Q = Q (some (.int (sO (gFy x l) x.G))) (hp nS M) := by
  have key : ∀ m j, j + m = x.G → am_Wp d 119 4 [.ref 18, .int (nI l), .int (sO (gFy x l) j), .int (nI j)] [] (hp nS M) Q = Q (some (.int (sO (gFy x l) x.G))) (hp nS M) := by
    intro m
    induction m with
    | zero =>
      intro j hj
      have : j = x.G := by omega
      subst this
      rw [b_119_4, h.fG, if_pos (Int32.le_refl _), b_119_34]
    | succ m ih =>
      intro j hj
      have hn' := ih (j + 1) (by omega)
      rw [sO] at hn'
      have g7 : M 25 j = nI (x.up j) - 1 := h.bb j (by omega)
      have u6 := hu j (by omega)
      rw [b_119_4, h.fG, if_neg (by rw [le_n (by omega) (by omega)]; omega), b_119_12 (by first | exact in_n (by omega) (by omega) | (simp only [li, nI_add, pk_mul]; exact in_n (by omega) (by omega))), cl_n (by omega), g7]
      by_cases c : x.up j = l + 1
      · rw [if_pos (show gFy x l j = 1 from if_pos c)] at hn'
        rw [if_neg (fun z => z (by rw [c, sub1 (by omega)]; rfl)), b_119_22, b_119_28, nI_1]; exact hn'
      · rw [if_neg (show ¬ gFy x l j = 1 by rw [gFy, if_neg c]; decide)] at hn'
        rw [if_pos (fun z => c ((m1_eq2 (x.up j) (by omega) l hl).mp z)), b_119_28, nI_1]; exact hn'
  rw [b_119_0]
  exact key x.G 0 (by omega)
theorem m_goodsBy {d nS l : Nat} {x : Cx} {M : am_M} {Q : Option Value → am_H → Prop} (h : MX M x) (hG : x.G ≤ 8) (hu : ∀ g, g < 8 → x.up g ≤ 6) (hl : l < 6) : am_Wp d 246 0 [.ref 205, .int (nI l), .retAddr 0, .retAddr 0] [] (hp nS M) Q = Q (some (.int (sO (gFy x l) x.G))) (hp nS M) := by
  have key : ∀ m j, j + m = x.G → am_Wp d 246 4 [.ref 205, .int (nI l), .int (sO (gFy x l) j), .int (nI j)] [] (hp nS M) Q = Q (some (.int (sO (gFy x l) x.G))) (hp nS M) := by
    intro m
    induction m with
    | zero =>
      intro j hj
      have : j = x.G := by omega
      subst this
      rw [b_246_4, h.fG, if_pos (Int32.le_refl _), b_246_36]
    | succ m ih =>
      intro j hj
      have hn' := ih (j + 1) (by omega)
      rw [sO] at hn'
      have u6 := hu j (by omega)
      rw [b_246_4, h.fG, if_neg (by rw [le_n (by omega) (by omega)]; omega), b_246_12 (by first | exact in_n (by omega) (by omega) | (simp only [li, nI_add, pk_mul]; exact in_n (by omega) (by omega))), cl_n (by omega), h.up j (by omega), nI_1]
      by_cases c : x.up j = l + 1
      · rw [if_pos (show gFy x l j = 1 from if_pos c)] at hn'
        rw [if_neg (fun z => z (by rw [c])), b_246_24, b_246_30, nI_1]; exact hn'
      · rw [if_neg (show ¬ gFy x l j = 1 by rw [gFy, if_neg c]; decide)] at hn'
        rw [if_pos (by rw [eq_n (by omega) (by omega)]; exact c), b_246_30, nI_1]; exact hn'
  rw [b_246_0]
  exact key x.G 0 (by omega)
theorem x_stockAll {d nS g : Nat} {x : Cx} {W : Rw} {M : am_M} {Q : Option Value → am_H → Prop} (h : CW 18 M x W) (hT : x.T ≤ 10) (hg : g < 8) : am_Wp (d + 1) 120 0 [.ref 18, .int (nI g), .retAddr 0, .retAddr 0] [] (hp nS M) Q = Q (some (.int (sI (fun t => W (56 + (8 * t + g))) x.T))) (hp nS M) := by
  have key : ∀ m j, j + m = x.T → am_Wp (d + 1) 120 4 [.ref 18, .int (nI g), .int (sI (fun t => W (56 + (8 * t + g))) j), .int (nI j)] [] (hp nS M) Q = Q (some (.int (sI (fun t => W (56 + (8 * t + g))) x.T))) (hp nS M) := by
    intro m
    induction m with
    | zero =>
      intro j hj
      have : j = x.T := by omega
      subst this
      rw [b_120_4, h.fT, if_pos (Int32.le_refl _), b_120_27]
    | succ m ih =>
      intro j hj
      have g29 : M 29 (8 * j + g) = W (56 + (8 * j + g)) := h.st _ (by omega)
      rw [b_120_4, h.fT, if_neg (by rw [le_n (by omega) (by omega)]; omega), b_120_12, c_110 (by rw [mul8]; exact in_n (by omega) (by omega)), mul8, cl_n (by omega), g29, am_ans_some, b_120_19, nI_1]
      exact ih (j + 1) (by omega)
  rw [b_120_0]
  exact key x.T 0 (by omega)
theorem m_stockAll {d nS g : Nat} {x2 : Int32} {x : Cx} {W : Rw} {M : am_M} {Q : Option Value → am_H → Prop} (h : MX M x) (hW : ∀ k, k < 136 → M 206 k = W k) (hT : x.T ≤ 10) (hg : g < 8) : am_Wp (d + 1) 247 77 [.ref 205, .int (nI g), .int x2, .retAddr 0, .retAddr 0] [] (hp nS M) Q = Q (some (.int (sI (fun t => W (56 + (8 * t + g))) x.T))) (hp nS M) := by
  have key : ∀ m j, j + m = x.T → am_Wp (d + 1) 247 82 [.ref 205, .int (nI g), .int x2, .int (sI (fun t => W (56 + (8 * t + g))) j), .int (nI j)] [] (hp nS M) Q = Q (some (.int (sI (fun t => W (56 + (8 * t + g))) x.T))) (hp nS M) := by
    intro m
    induction m with
    | zero =>
      intro j hj
      have : j = x.T := by omega
      subst this
      rw [b_247_82, h.fT, if_pos (Int32.le_refl _), b_247_112]
    | succ m ih =>
      intro j hj
      rw [b_247_82, h.fT, if_neg (by rw [le_n (by omega) (by omega)]; omega), b_247_91, c_173, st_at, am_ans_some, b_247_103 (by first | exact in_n (by omega) (by omega) | (simp only [li, nI_add, pk_mul]; exact in_n (by omega) (by omega))), cl_n (by omega), hW _ (by omega), nI_1]
      exact ih (j + 1) (by omega)
  rw [b_247_77]
  exact key x.T 0 (by omega)
def wrt (W : Rw) (t : Nat) : Nat → Int32
  | 0 => W (36 + t)
  | g + 1 => wrt W t g + W (56 + (8 * t + g)) * W (28 + g)
theorem x_worth {d nS t : Nat} {x : Cx} {W : Rw} {M : am_M} {Q : Option Value → am_H → Prop} (h : CW 18 M x W) (hG : x.G ≤ 8) (ht : t < 10) : am_Wp (d + 1) 121 0 [.ref 18, .int (nI t), .retAddr 0, .retAddr 0] [] (hp nS M) Q = Q (some (.int (wrt W t x.G))) (hp nS M) := by
  have key : ∀ m j, j + m = x.G → am_Wp (d + 1) 121 9 [.ref 18, .int (nI t), .int (wrt W t j), .int (nI j)] [] (hp nS M) Q = Q (some (.int (wrt W t x.G))) (hp nS M) := by
    intro m
    induction m with
    | zero =>
      intro j hj
      have : j = x.G := by omega
      subst this
      rw [b_121_9, h.fG, if_pos (Int32.le_refl _), b_121_39]
    | succ m ih =>
      intro j hj
      have g29 : M 29 (8 * t + j) = W (56 + (8 * t + j)) := h.st _ (by omega)
      have g26 : M 26 j = W (28 + j) := h.pr _ (by omega)
      rw [b_121_9, h.fG, if_neg (by rw [le_n (by omega) (by omega)]; omega), b_121_17, c_110 (by rw [mul8]; exact in_n (by omega) (by omega)), mul8, cl_n (by omega), g29, am_ans_some, b_121_24 (by first | exact in_n (by omega) (by omega) | (simp only [li, nI_add, pk_mul]; exact in_n (by omega) (by omega))), cl_n (by omega), g26, nI_1]
      exact ih (j + 1) (by omega)
  have g27 : M 27 t = W (36 + t) := h.pu _ ht
  rw [b_121_0 (by first | exact in_n (by omega) (by omega) | (simp only [li, nI_add, pk_mul]; exact in_n (by omega) (by omega))), cl_n (by omega), g27]
  exact key x.G 0 (by omega)
theorem m_worth {d nS t : Nat} {x : Cx} {W : Rw} {M : am_M} {Q : Option Value → am_H → Prop} (h : MX M x) (hW : ∀ k, k < 136 → M 206 k = W k) (hG : x.G ≤ 8) (ht : t < 10) : am_Wp (d + 1) 249 0 [.ref 205, .int (nI t), .retAddr 0, .retAddr 0] [] (hp nS M) Q = Q (some (.int (wrt W t x.G))) (hp nS M) := by
  have key : ∀ m j, j + m = x.G → am_Wp (d + 1) 249 12 [.ref 205, .int (nI t), .int (wrt W t j), .int (nI j)] [] (hp nS M) Q = Q (some (.int (wrt W t x.G))) (hp nS M) := by
    intro m
    induction m with
    | zero =>
      intro j hj
      have : j = x.G := by omega
      subst this
      rw [b_249_12, h.fG, if_pos (Int32.le_refl _), b_249_50]
    | succ m ih =>
      intro j hj
      rw [b_249_12, h.fG, if_neg (by rw [le_n (by omega) (by omega)]; omega), b_249_20, c_173, st_at, am_ans_some, b_249_31 (by first | exact in_n (by omega) (by omega) | (simp only [li, nI_add, pk_mul]; exact in_n (by omega) (by omega))) (by rw [adl]; exact in_n (by omega) (by omega)), adl, cl_n (by omega), cl_n (by omega), hW _ (by omega), hW _ (by omega), nI_1]
      exact ih (j + 1) (by omega)
  rw [b_249_0 (by rw [adl]; exact in_n (by omega) (by omega)), adl, cl_n (by omega), hW _ (by omega)]
  exact key x.G 0 (by omega)
theorem p_who {nS d c : Nat} {Mi M : am_M} {s : St} {x1 x2 : Int32} (hC : CI Mi M s) (hM : MI M s) (hG : GI c s) : prS nS (d + 12) c Mi 139 [.ref 16, .int x1, .int x2, .retAddr 0] 248 [.ref 205, .int x1, .int x2] M := by
  have hT := told_MI hM hG
  have hG8 := hG.t.G8
  have hT10 := hG.t.T10
  have q2 : M 18 2 = nI s.t.x.T := hC.tw.w.fT
  have q1 : M 18 1 = nI s.t.x.G := hC.tw.w.fG
  unfold prS
  rw [b_139_0, c_107, am_ans_some, b_139_13]
  rcases rngH x1 s.t.x.T (nI s.t.x.T) rfl (by omega) with hn | ⟨hh, i, rfl, hi⟩
  · rw [ite1_f (by rw [q2]; exact hn), b_139_16]
    refine ⟨_, M, rfl, rfl, ?_⟩
    rw [b_248_0, c_179, am_ans_some, b_248_10, ite1_f (by rw [hT.tw.mx.fT]; exact hn), b_248_13]
    exact Kq_no hC hM hG
  have m0 : ∀ {Q : Option Value → am_H → Prop}, am_Wp (d + 12) 248 0 [.ref 205, .int (nI i), .int x2] [] (hp nS M) Q = am_Wp (d + 11 + 1) 248 16 [.ref 205, .int (nI i), .int x2] [] (hp nS (am_up M 205 0 0)) Q := by
    intro Q
    rw [b_248_0, c_179, am_ans_some, b_248_10, ite1_t (by rw [hT.tw.mx.fT]; exact hh)]
  have g27 : M 27 i = s.t.W (36 + i) := hC.tw.w.pu i (by omega)
  have g28 : M 28 i = s.t.W (46 + i) := hC.tw.w.ru i (by omega)
  rw [ite1_t (by rw [q2]; exact hh), b_139_19]
  by_cases e0 : x2 = 0
  · rw [if_neg (fun z => z e0), b_139_23 (by first | exact in_n (by omega) (by omega) | (simp only [li, nI_add, pk_mul]; exact in_n (by omega) (by omega))), cl_n (by omega), g27]
    refine ⟨_, M, rfl, rfl, ?_⟩
    rw [m0, b_248_16, if_neg (fun z => z e0), b_248_20 (by rw [adl]; exact in_n (by omega) (by omega)), adl, cl_n (by omega), hT.tw.w _ (by omega)]
    exact Kq_no hC hM hG
  rw [if_pos e0, b_139_30]
  by_cases e1 : x2 = 1
  · rw [if_neg (fun z => z e1), b_139_35 (by first | exact in_n (by omega) (by omega) | (simp only [li, nI_add, pk_mul]; exact in_n (by omega) (by omega))), cl_n (by omega), g28]
    refine ⟨_, M, rfl, rfl, ?_⟩
    rw [m0, b_248_16, if_pos e0, b_248_30, if_neg (fun z => z e1), b_248_35 (by rw [adl]; exact in_n (by omega) (by omega)), adl, cl_n (by omega), hT.tw.w _ (by omega)]
    exact Kq_no hC hM hG
  rw [if_pos e1, b_139_42]
  by_cases e2 : x2 = 2
  · rw [if_neg (fun z => z e2), b_139_47, x_worth hC.tw.w hG8 (by omega), am_ans_some, b_139_52]
    refine ⟨_, M, rfl, rfl, ?_⟩
    rw [m0, b_248_16, if_pos e0, b_248_30, if_pos e1, b_248_45, if_neg (fun z => z e2), b_248_50, m_worth hT.tw.mx hT.tw.w hG8 (by omega), am_ans_some, b_248_55, b_248_94]
    exact Kq_no hC hM hG
  rw [if_pos e2, b_139_53]
  have m3 : ∀ {Q : Option Value → am_H → Prop}, am_Wp (d + 12) 248 0 [.ref 205, .int (nI i), .int x2] [] (hp nS M) Q = if (if (¬ x2 < 10 ∧ ¬ nI (9 + s.t.x.G) < x2) then (1 : Int32) else 0) = 0 then am_Wp (d + 11 + 1) 248 92 [.ref 205, .int (nI i), .int x2] [] (hp nS (am_up M 205 0 0)) Q else am_Wp (d + 11 + 1) 248 75 [.ref 205, .int (nI i), .int x2] [] (hp nS (am_up M 205 0 0)) Q := by
    intro Q
    rw [m0, b_248_16, if_pos e0, b_248_30, if_pos e1, b_248_45, if_pos e2, b_248_58, hT.tw.mx.fG, adl, c_171, am_ans_some, b_248_72]
  by_cases e10 : x2 < 10
  · rw [if_pos e10, b_139_82, b_139_84]
    refine ⟨_, M, rfl, rfl, ?_⟩
    rw [m3, ite0_f (fun z => z.1 e10), b_248_92, b_248_94]
    exact Kq_no hC hM hG
  have hx0 : ¬ x2 < 0 := fun z => e10 (Int32.lt_trans z (by decide))
  obtain ⟨k, rfl, hk⟩ := pos_ex hx0
  have hk10 : 10 ≤ k := by
    rw [li, lt_n (by omega) (by omega)] at e10
    omega
  have es : nI k - 10 = nI (k - 10) := sub_n (b := 10) hk10
  rw [if_neg e10, b_139_59, es, c_106, am_ans_some, b_139_67]
  by_cases hk2 : k - 10 < s.t.x.G
  · have g29 : M 29 (8 * i + (k - 10)) = s.t.W (56 + (8 * i + (k - 10))) := hC.tw.w.st _ (by omega)
    rw [ite0_t (hasI q1 hk2 (by omega)), b_139_70, es, c_110 (by rw [mul8]; exact in_n (by omega) (by omega)), mul8, cl_n (by omega), g29, am_ans_some, b_139_79, b_139_84]
    refine ⟨_, M, rfl, rfl, ?_⟩
    rw [m3, ite0_t ⟨e10, by rw [lt_n (by omega) (by omega)]; omega⟩, b_248_75, es, c_173, st_at, am_ans_some, b_248_88 (by first | exact in_n (by omega) (by omega) | (simp only [li, nI_add, pk_mul]; exact in_n (by omega) (by omega))), cl_n (by omega), hT.tw.w _ (by omega), b_248_94]
    exact Kq_no hC hM hG
  · rw [ite0_f (fun z => z.2 (by rw [q1, le_n (by omega) (by omega)]; omega)), b_139_82, b_139_84]
    refine ⟨_, M, rfl, rfl, ?_⟩
    rw [m3, ite0_f (fun z => z.2 (by rw [lt_n (by omega) (by omega)]; omega)), b_248_92, b_248_94]
    exact Kq_no hC hM hG
end
