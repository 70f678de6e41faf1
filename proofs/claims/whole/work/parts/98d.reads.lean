section
/-! CALLS THAT READ -/
def sO (f : Nat → Int32) : Nat → Int32
  | 0 => 0
  | k + 1 => if f k = 1 then sO f k ||| ((1 : Int32) <<< (nI k &&& 31)) else sO f k
theorem x_setL {d nS n : Nat} {f : Nat → Int32} {M : am_M} {Q : Option Value → am_H → Prop} (hf : ∀ k, k < n → M 22 k = f k) (hn : n ≤ 6) : am_Wp d 166 0 [.ref 22, .int (nI n), .retAddr 0, .retAddr 0] [] (hp nS M) Q = Q (some (.int (sO f n))) (hp nS M) := by
  have key : ∀ m j, j + m = n → am_Wp d 166 4 [.ref 22, .int (nI n), .int (sO f j), .int (nI j)] [] (hp nS M) Q = Q (some (.int (sO f n))) (hp nS M) := by
    intro m
    induction m with
    | zero =>
      intro j hj
      have : j = n := by omega
      subst this
      rw [b_166i1_4, if_pos (Int32.le_refl _), b_166i1_34]
    | succ m ih =>
      intro j hj
      have hn' := ih (j + 1) (by omega)
      rw [sO] at hn'
      rw [b_166i1_4, if_neg (by rw [le_n (by omega) (by omega)]; omega), b_166i1_9, if_neg (by rw [li, le_n (by omega) (by omega)]; omega), b_166i1_15 (by first | exact in_n (by omega) (by omega) | (simp only [li, nI_add, pk_mul]; exact in_n (by omega) (by omega))), cl_n (by omega), hf j (by omega)]
      by_cases c : f j = 1
      · rw [if_pos c] at hn'
        rw [if_neg (fun z => z c), b_166i1_22, b_166i1_28, nI_1]; exact hn'
      · rw [if_neg c] at hn'
        rw [if_pos c, b_166i1_28, nI_1]; exact hn'
  rw [b_166i1_0]
  exact key n 0 (by omega)
theorem x_setT {d nS n : Nat} {f : Nat → Int32} {M : am_M} {Q : Option Value → am_H → Prop} (hf : ∀ k, k < n → M 28 k = f k) (hn : n ≤ 10) : am_Wp d 166 0 [.ref 28, .int (nI n), .retAddr 0, .retAddr 0] [] (hp nS M) Q = Q (some (.int (sO f n))) (hp nS M) := by
  have key : ∀ m j, j + m = n → am_Wp d 166 4 [.ref 28, .int (nI n), .int (sO f j), .int (nI j)] [] (hp nS M) Q = Q (some (.int (sO f n))) (hp nS M) := by
    intro m
    induction m with
    | zero =>
      intro j hj
      have : j = n := by omega
      subst this
      rw [b_166_4, if_pos (Int32.le_refl _), b_166_34]
    | succ m ih =>
      intro j hj
      have hn' := ih (j + 1) (by omega)
      rw [sO] at hn'
      rw [b_166_4, if_neg (by rw [le_n (by omega) (by omega)]; omega), b_166_9, if_neg (by rw [li, le_n (by omega) (by omega)]; omega), b_166_15 (by first | exact in_n (by omega) (by omega) | (simp only [li, nI_add, pk_mul]; exact in_n (by omega) (by omega))), cl_n (by omega), hf j (by omega)]
      by_cases c : f j = 1
      · rw [if_pos c] at hn'
        rw [if_neg (fun z => z c), b_166_22, b_166_28, nI_1]; exact hn'
      · rw [if_neg c] at hn'
        rw [if_pos c, b_166_28, nI_1]; exact hn'
  rw [b_166_0]
  exact key n 0 (by omega)
theorem m_setO {d nS n b : Nat} {f : Nat → Int32} {M : am_M} {Q : Option Value → am_H → Prop} (hf : ∀ k, k < n → M 206 (b + k) = f k) (hn : n ≤ 10) (hb : b ≤ 100) : am_Wp d 295 0 [.ref 205, .int (nI b), .int (nI n), .retAddr 0, .retAddr 0] [] (hp nS M) Q = Q (some (.int (sO f n))) (hp nS M) := by
  have key : ∀ m j, j + m = n → am_Wp d 295 5 [.ref 205, .int (nI b), .int (nI n), .int (sO f j), .int (nI j)] [] (hp nS M) Q = Q (some (.int (sO f n))) (hp nS M) := by
    intro m
    induction m with
    | zero =>
      intro j hj
      have : j = n := by omega
      subst this
      rw [b_295_5, if_pos (Int32.le_refl _), b_295_37]
    | succ m ih =>
      intro j hj
      have hn' := ih (j + 1) (by omega)
      rw [sO] at hn'
      rw [b_295_5, if_neg (by rw [le_n (by omega) (by omega)]; omega), b_295_11 (by rw [nI_add]; exact in_n (by omega) (by omega)), nI_add, cl_n (by omega), hf j (by omega)]
      by_cases c : f j = 1
      · rw [if_pos c] at hn'
        rw [if_neg (fun z => z c), b_295_24, b_295_31, nI_1]; exact hn'
      · rw [if_neg c] at hn'
        rw [if_pos c, b_295_31, nI_1]; exact hn'
  rw [b_295_0]
  exact key n 0 (by omega)
theorem p_look {nS d c : Nat} {Mi M : am_M} {s : St} {x1 : Int32} (hC : CI Mi M s) (hM : MI M s) (hG : GI c s) : prS nS (d + 12) c Mi 165 [.ref 16, .int x1, .retAddr 0] 294 [.ref 205, .int x1] M := by
  have hT := told_MI hM hG
  have hL6 := hG.t.L6
  have hT10 := hG.t.T10
  have g18 : ∀ {k v}, M 18 k = v → M 18 k = v := fun h => h
  have q0 : M 18 0 = nI s.t.x.L := hC.tw.w.fL
  have q1 : M 18 1 = nI s.t.x.G := hC.tw.w.fG
  have q2 : M 18 2 = nI s.t.x.T := hC.tw.w.fT
  have q3 : M 18 3 = s.t.W 3 := hC.tw.w.wi
  have q4 : M 18 4 = s.t.W 0 := hC.tw.w.da
  have q5 : M 18 5 = s.t.W 1 := hC.tw.w.dr
  have q6 : M 18 6 = s.t.W 2 := hC.tw.w.wr
  have q7 : M 31 0 = nI s.t.l.n := hC.tw.lw.n
  have q8 : M 39 1 = nI s.t.dn.n := hC.tw.dn.n
  have q9 : M 41 1 = nI s.t.tr.n := hC.tw.tr.n
  have q10 : M 43 1 = nI s.t.bn := hC.tw.bn
  have qL : ∀ k, k < s.t.x.L → M 22 k = (fun k => s.t.W (16 + k)) k := fun k hk => hC.tw.w.lo k (by omega)
  have qT : ∀ k, k < s.t.x.T → M 28 k = (fun k => s.t.W (46 + k)) k := fun k hk => hC.tw.w.ru k (by omega)
  have rL : ∀ k, k < s.t.x.L → am_up M 205 0 0 206 (16 + k) = (fun k => s.t.W (16 + k)) k := fun k hk => hT.tw.w _ (by omega)
  have rT' : ∀ k, k < s.t.x.T → am_up M 205 0 0 206 (46 + k) = (fun k => s.t.W (46 + k)) k := fun k hk => hT.tw.w _ (by omega)
  unfold prS
  rw [b_165_0]
  by_cases e0 : x1 = 0
  · rw [if_pos e0, b_165_80, q0]
    refine ⟨_, M, rfl, rfl, ?_⟩
    rw [b_294_0, if_neg (fun z => z e0), b_294_9, hT.tw.mx.fL]
    exact Kq_no hC hM hG
  rw [if_neg e0]
  by_cases e1 : x1 = 1
  · rw [if_pos e1, b_165_85, q1]
    refine ⟨_, M, rfl, rfl, ?_⟩
    rw [b_294_0, if_pos e0, b_294_14, if_neg (fun z => z e1), b_294_19, hT.tw.mx.fG]
    exact Kq_no hC hM hG
  rw [if_neg e1]
  by_cases e2 : x1 = 2
  · rw [if_pos e2, b_165_90, q2]
    refine ⟨_, M, rfl, rfl, ?_⟩
    rw [b_294_0, if_pos e0, b_294_14, if_pos e1, b_294_24, if_neg (fun z => z e2), b_294_29, hT.tw.mx.fT]
    exact Kq_no hC hM hG
  rw [if_neg e2]
  have m3 : ∀ {Q : Option Value → am_H → Prop}, am_Wp (d + 12) 294 0 [.ref 205, .int x1] [] (hp nS M) Q = am_Wp (d + 12) 294 34 [.ref 205, .int x1] [] (hp nS (am_up M 205 0 0)) Q := by
    intro Q
    rw [b_294_0, if_pos e0, b_294_14, if_pos e1, b_294_24, if_pos e2]
  by_cases e3 : x1 = 3
  · rw [if_pos e3, b_165_95, q3]
    refine ⟨_, M, rfl, rfl, ?_⟩
    rw [m3, b_294_34, if_neg (fun z => z e3), b_294_39, hT.tw.w 3 (by omega)]
    exact Kq_no hC hM hG
  rw [if_neg e3]
  by_cases e4 : x1 = 4
  · rw [if_pos e4, b_165_100, q0, x_setL qL hL6, am_ans_some, b_165_111]
    refine ⟨_, M, rfl, rfl, ?_⟩
    rw [m3, b_294_34, if_pos e3, b_294_46, if_neg (fun z => z e4), b_294_51, hT.tw.mx.fL]
    refine Eq.mpr (m_setO (b := 16) rL (by omega) (by omega)) ?_
    rw [am_ans_some, b_294_61]
    exact Kq_no hC hM hG
  rw [if_neg e4]
  by_cases e5 : x1 = 5
  · rw [if_pos e5, b_165_112, q2, x_setT qT hT10, am_ans_some, b_165_123]
    refine ⟨_, M, rfl, rfl, ?_⟩
    rw [m3, b_294_34, if_pos e3, b_294_46, if_pos e4, b_294_62, if_neg (fun z => z e5), b_294_67, hT.tw.mx.fT]
    refine Eq.mpr (m_setO (b := 46) rT' (by omega) (by omega)) ?_
    rw [am_ans_some, b_294_77]
    exact Kq_no hC hM hG
  rw [if_neg e5]
  have m6 : ∀ {Q : Option Value → am_H → Prop}, am_Wp (d + 12) 294 0 [.ref 205, .int x1] [] (hp nS M) Q = am_Wp (d + 12) 294 78 [.ref 205, .int x1] [] (hp nS (am_up M 205 0 0)) Q := by
    intro Q
    rw [m3, b_294_34, if_pos e3, b_294_46, if_pos e4, b_294_62, if_pos e5]
  by_cases e6 : x1 = 6
  · rw [if_pos e6, b_165_124, q4]
    refine ⟨_, M, rfl, rfl, ?_⟩
    rw [m6, b_294_78, if_neg (fun z => z e6), b_294_84, hT.tw.w 0 (by omega)]
    exact Kq_no hC hM hG
  rw [if_neg e6]
  by_cases e7 : x1 = 7
  · rw [if_pos e7, b_165_129, q6]
    refine ⟨_, M, rfl, rfl, ?_⟩
    rw [m6, b_294_78, if_pos e6, b_294_91, if_neg (fun z => z e7), b_294_97, hT.tw.w 2 (by omega)]
    exact Kq_no hC hM hG
  rw [if_neg e7]
  by_cases e8 : x1 = 8
  · rw [if_pos e8, b_165_134, q5]
    refine ⟨_, M, rfl, rfl, ?_⟩
    rw [m6, b_294_78, if_pos e6, b_294_91, if_pos e7, b_294_104, if_neg (fun z => z e8), b_294_110, hT.tw.w 1 (by omega)]
    exact Kq_no hC hM hG
  rw [if_neg e8]
  have m9 : ∀ {Q : Option Value → am_H → Prop}, am_Wp (d + 12) 294 0 [.ref 205, .int x1] [] (hp nS M) Q = am_Wp (d + 12) 294 117 [.ref 205, .int x1] [] (hp nS (am_up M 205 0 0)) Q := by
    intro Q
    rw [m6, b_294_78, if_pos e6, b_294_91, if_pos e7, b_294_104, if_pos e8]
  by_cases e9 : x1 = 9
  · rw [if_pos e9, b_165_139, q7]
    refine ⟨_, M, rfl, rfl, ?_⟩
    rw [m9, b_294_117, if_neg (fun z => z e9), b_294_123, hT.tw.lw.n]
    exact Kq_no hC hM hG
  rw [if_neg e9]
  by_cases e10 : x1 = 10
  · rw [if_pos e10, b_165_150, q8]
    refine ⟨_, M, rfl, rfl, ?_⟩
    rw [m9, b_294_117, if_pos e9, b_294_130, if_neg (fun z => z e10), b_294_136, hT.tw.dn.n]
    exact Kq_no hC hM hG
  rw [if_neg e10]
  by_cases e11 : x1 = 11
  · rw [if_pos e11, b_165_161, q9]
    refine ⟨_, M, rfl, rfl, ?_⟩
    rw [m9, b_294_117, if_pos e9, b_294_130, if_pos e10, b_294_141, if_neg (fun z => z e11), b_294_147, hT.tw.tr.n]
    exact Kq_no hC hM hG
  rw [if_neg e11]
  by_cases e12 : x1 = 12
  · rw [if_pos e12, b_165_172, q10]
    refine ⟨_, M, rfl, rfl, ?_⟩
    rw [m9, b_294_117, if_pos e9, b_294_130, if_pos e10, b_294_141, if_pos e11, b_294_152, if_neg (fun z => z e12), b_294_158, hT.tw.bn]
    exact Kq_no hC hM hG
  rw [if_neg e12]
  by_cases e13 : x1 = 13
  · rw [if_pos e13, b_165_183, hC.pc]
    refine ⟨_, M, rfl, rfl, ?_⟩
    rw [m9, b_294_117, if_pos e9, b_294_130, if_pos e10, b_294_141, if_pos e11, b_294_152, if_pos e12, b_294_163, if_neg (fun z => z e13), b_294_169, b_294_179, hT.pc]
    exact Kq_no hC hM hG
  rw [if_neg e13, b_165_191]
  refine ⟨_, M, rfl, rfl, ?_⟩
  rw [m9, b_294_117, if_pos e9, b_294_130, if_pos e10, b_294_141, if_pos e11, b_294_152, if_pos e12, b_294_163, if_pos e13, b_294_176, b_294_179]
  exact Kq_no hC hM hG
theorem p_book {nS d c : Nat} {Mi M : am_M} {s : St} {x1 x2 : Int32} (hC : CI Mi M s) (hM : MI M s) (hG : GI c s) : prS nS (d + 12) c Mi 140 [.ref 16, .int x1, .int x2] 250 [.ref 205, .int x1, .int x2] M := by
  have hT := told_MI hM hG
  obtain ⟨w, hw, hw150⟩ := hG.t.wg.ok.wr
  have q6 : M 18 6 = nI w := (hC.tw.w.wr).trans hw
  have r6 : am_up M 205 0 0 206 2 = nI w := (hT.tw.w 2 (by omega)).trans hw
  have key : (((x1 < 0 ∨ ¬ x1 ≤ nI w - 1) ∧ ¬ (¬ x1 < 0 ∧ ¬ nI w - 1 < x1)) ∨ (¬ (x1 < 0 ∨ ¬ x1 ≤ nI w - 1) ∧ (¬ x1 < 0 ∧ ¬ nI w - 1 < x1) ∧ ∃ k, x1 = nI k ∧ k < w)) := by
    by_cases h1 : x1 < 0
    · exact Or.inl ⟨Or.inl h1, fun z => z.1 h1⟩
    · by_cases h2 : nI w - 1 < x1
      · exact Or.inl ⟨Or.inr (not_le' h2), fun z => z.2 h2⟩
      · refine Or.inr ⟨fun z => z.elim h1 (fun z => z (le_of' h2)), ⟨h1, h2⟩, ?_⟩
        rcases Nat.eq_zero_or_pos w with h0 | h0
        · exfalso
          subst h0
          have : x1 ≤ -1 := le_of' h2
          exact h1 (Int32.lt_of_le_of_lt this (by decide))
        · rw [sub1 h0] at h2
          obtain ⟨k, rfl, _, hk⟩ := in_ex (lo := 0) (hi := w - 1) h1 h2 (by omega) (by omega)
          exact ⟨k, rfl, by omega⟩
  unfold prS
  rcases key with ⟨o1, i1⟩ | ⟨o1, i1, a, rfl, ha⟩
  · rw [c_140 (fun h => absurd (by rw [q6]; exact o1) h), if_pos (by rw [q6]; exact o1)]
    refine ⟨_, M, rfl, rfl, ?_⟩
    rw [c_250 (fun h => absurd (by rw [r6] at h; exact h) i1), if_neg (by rw [r6]; exact i1)]
    exact Kq_no hC hM hG
  rcases rng x2 0 3 0 3 rfl rfl (by omega) (by omega) with ⟨o2, i2⟩ | ⟨o2, i2, b, rfl, b1, b2⟩
  · rw [c_140 (fun _ h => absurd o2 h), if_neg (by rw [q6]; exact o1), if_pos o2]
    refine ⟨_, M, rfl, rfl, ?_⟩
    rw [c_250 (fun _ h => absurd h i2), if_pos (by rw [r6]; exact i1), if_neg i2]
    exact Kq_no hC hM hG
  · rw [c_140 (fun _ _ => by rw [mul4]; exact in_n (by omega) (by omega)), if_neg (by rw [q6]; exact o1), if_neg o2, mul4, cl_n (by omega)]
    refine ⟨_, M, rfl, rfl, ?_⟩
    rw [c_250 (fun _ _ => by rw [mul4']; exact in_n (by omega) (by omega)), if_pos (by rw [r6]; exact i1), if_pos i2, mul4', cl_n (by omega), hT.tw.bk _ (by omega)]
    have : M 30 (4 * a + b) = s.t.B (4 * a + b) := hC.tw.bk _ (by omega)
    rw [this]
    exact Kq_no hC hM hG
end
