section
def qn (t : Tn) (k : Nat) : Nat := if k < t.pn then t.pr k else 1
theorem qn_b {c : Nat} {t : Tn} (h : GT c t) (k : Nat) : 1 ≤ qn t k ∧ qn t k ≤ 99 := by
  unfold qn
  by_cases e : k < t.pn
  · rw [if_pos e]; exact h.pr k e
  · rw [if_neg e]; omega
theorem qn_c {M : am_M} {t : Tn} (h : CT 17 M t) : ∀ k, k < t.pn → M 46 k = nI (qn t k) := fun k hk => by
  unfold qn
  rw [if_pos hk]
  exact h.pr k hk
theorem qn_m {M : am_M} {t : Tn} (h : MTV M t) : ∀ k, k < t.pn → M 227 k = nI (qn t k) := fun k hk => by
  unfold qn
  rw [if_pos hk]
  exact h.pr k hk
theorem p_window {nS d c : Nat} {Mi M : am_M} {s : St} {x1 x2 : Int32} (hC : CI Mi M s) (hM : MI M s) (hG : GI c s) : prS nS (d + 12) c Mi 154 [.ref 16, .int x1, .int x2, .retAddr 0] 259 [.ref 205, .int x1, .int x2, .retAddr 0, .retAddr 0, .retAddr 0] M := by
  unfold prS
  rw [b_154_0, c_125, am_ans_some, b_154_7]
  rcases rng x1 1 14 1 14 rfl rfl (by omega) (by omega) with ⟨o1, i1⟩ | ⟨o1, i1, n, rfl, n1, n2⟩
  · rw [ite1_t o1, b_154_19]
    refine ⟨_, M, rfl, rfl, ?_⟩
    rw [b_259_0, c_171, am_ans_some, b_259_13, ite0_f i1, b_259_26]
    exact Kq_no hC hM hG
  rw [ite1_f o1, b_154_10, c_125, am_ans_some, b_154_16]
  rcases rng x2 0 1 0 1 rfl rfl (by omega) (by omega) with ⟨o2, i2⟩ | ⟨o2, i2, hw⟩
  · rw [ite0_t o2, b_154_19]
    refine ⟨_, M, rfl, rfl, ?_⟩
    rw [b_259_0, c_171, am_ans_some, b_259_13, ite0_t i1, b_259_16, c_171, am_ans_some, b_259_23, ite1_f i2, b_259_26]
    exact Kq_no hC hM hG
  have h14 := hG.t.p14
  have hsx : ∀ a, a + n ≤ s.t.pn → sI (fun k => M 46 (a + k)) n = sI (fun k => nI (qn s.t (a + k))) n := fun a ha => sI_congr _ _ n (fun k hk => qn_c hC.tw _ (by omega))
  have hsm : ∀ a, a + n ≤ s.t.pn → sI (fun k => am_up M 205 0 0 227 (a + k)) n = sI (fun k => nI (qn s.t (a + k))) n := fun a ha => sI_congr _ _ n (fun k hk => qn_m (told_MI hM hG).tw _ (by omega))
  have mo : ∀ {x2 : Int32} {Q : Option Value → am_H → Prop}, (¬ x2 < 0 ∧ ¬ 1 < x2) → am_Wp (d + 12) 259 0 [.ref 205, .int (nI n), .int x2, .retAddr 0, .retAddr 0, .retAddr 0] [] (hp nS M) Q = Q (some (.int (if ¬ x2 = 0 then (wnS (fun a => sI (fun k => nI (qn s.t (a + k))) n) (s.t.pn + 1 - n)).2 else (wnS (fun a => sI (fun k => nI (qn s.t (a + k))) n) (s.t.pn + 1 - n)).1))) (hp nS (am_up M 205 0 0)) := by
    intro x2 Q i2
    rw [b_259_0, c_171, am_ans_some, b_259_13, ite0_t i1, b_259_16, c_171, am_ans_some, b_259_23, ite1_t i2, m_window _ hsm (told_MI hM hG).tw.pn n1 h14 n2]
  rw [ite0_f o2, b_154_21, x_dearest _ hsx hC.tw.pn n1 h14 n2, am_ans_some, b_154_32]
  rcases r_m1 hw with rfl | rfl
  · rw [if_pos (by decide), b_154_40]
    rcases wnS_ok (fun a => sI (fun k => nI (qn s.t (a + k))) n) (s.t.pn + 1 - n) (by omega) with e | ⟨k, hk, e⟩
    · rw [e, if_neg (fun z => z rfl), b_154_45, b_154_61]
      refine ⟨_, M, rfl, rfl, ?_⟩
      rw [mo i2, e, if_neg (fun z => z rfl)]
      exact Kq_no hC hM hG
    · rw [e, if_pos (show ¬ nI k = -1 from nI_m1 (by omega)), b_154_49]
      rw [x_sumFrom hC.tw.pn (by omega) h14, am_ans_some, b_154_61, hsx k (by omega)]
      refine ⟨_, M, rfl, rfl, ?_⟩
      rw [mo i2, e, if_neg (fun z => z rfl)]
      exact Kq_no hC hM hG
  · rw [if_neg (fun z => z rfl), b_154_38]
    refine ⟨_, M, rfl, rfl, ?_⟩
    rw [mo i2, if_pos (by decide)]
    exact Kq_no hC hM hG
theorem p_trading {nS d c : Nat} {Mi M : am_M} {s : St} {x1 x2 : Int32} (hC : CI Mi M s) (hM : MI M s) (hG : GI c s) : prS nS (d + 12) c Mi 145 [.ref 16, .int x1, .int x2] 257 [.ref 205, .int x1, .int x2, .retAddr 0, .retAddr 0] M := by
  unfold prS
  rw [b_145_0, c_125, am_ans_some, b_145_6]
  rcases rng x1 1 5 1 5 rfl rfl (by omega) (by omega) with ⟨o1, i1⟩ | ⟨o1, i1, n, rfl, n1, n2⟩
  · rw [ite1_t o1, b_145_18]
    refine ⟨_, M, rfl, rfl, ?_⟩
    rw [b_257_0, c_171, am_ans_some, b_257_12, ite0_f i1, b_257_25]
    exact Kq_no hC hM hG
  rw [ite1_f o1, b_145_9, c_125, am_ans_some, b_145_15]
  rcases rng x2 0 1 0 1 rfl rfl (by omega) (by omega) with ⟨o2, i2⟩ | ⟨o2, i2, hw⟩
  · rw [ite0_t o2, b_145_18]
    refine ⟨_, M, rfl, rfl, ?_⟩
    rw [b_257_0, c_171, am_ans_some, b_257_12, ite0_t i1, b_257_15, c_171, am_ans_some, b_257_22, ite1_f i2, b_257_25]
    exact Kq_no hC hM hG
  have h14 := hG.t.p14
  have hpp : ∀ k, 1 ≤ ((qn s.t k : Nat) : Int) ∧ ((qn s.t k : Nat) : Int) ≤ 99 := fun k => by have := qn_b hG.t k; omega
  have scr : ∀ a b : Rw, CI Mi (am_row (am_row M 48 a) 49 b) s ∧ MI (am_row (am_row M 48 a) 49 b) s := fun r r' => cs_scr hC hM hG (fun a k h => by rw [row_pt _ _ _ (by unfold sC at h; omega), row_pt _ _ _ (by unfold sC at h; omega)])
  have fin : ∀ (a b r' : Rw) (v : Int32), Kq nS c Mi v (some (.int v)) (hp nS (am_row (am_up (am_row (am_row M 48 a) 49 b) 205 0 0) 228 r')) := fun a b r' v => Kq_scr (scr a b).1 (scr a b).2 hG (fun a k h => by rw [row_pt _ _ _ (by unfold sM at h; omega)]; exact e_told _ a k h)
  rw [ite0_f o2, b_145_20]
  by_cases e0 : x2 = 0
  · rw [if_neg (fun z => z e0), b_145_24]
    refine x_mostGain (fun k => ((qn s.t k : Nat) : Int)) hpp (qn_c hC.tw) hC.tw.pn h14 n1 n2 (fun a b _ => ?_)
    rw [am_ans_some, b_145_35, b_145_49]
    refine ⟨_, _, rfl, rfl, ?_⟩
    rw [b_257_0, c_171, am_ans_some, b_257_12, ite0_t i1, b_257_15, c_171, am_ans_some, b_257_22, ite1_t i2]
    refine m_trading (fun k => ((qn s.t k : Nat) : Int)) hpp (qn_m (told_MI (scr a b).2 hG).tw) (told_MI (scr a b).2 hG).tw.pn h14 n1 n2 (fun t r h1 h2 h3 => ?_)
    rw [if_neg (fun z => z e0)]
    exact fin a b r _
  · rw [if_pos e0, b_145_38]
    refine x_fewest (fun k => ((qn s.t k : Nat) : Int)) hpp (qn_c hC.tw) hC.tw.pn h14 n1 n2 (fun t a b h1 h2 h3 => ?_)
    rw [am_ans_some, b_145_49]
    refine ⟨_, _, rfl, rfl, ?_⟩
    rw [b_257_0, c_171, am_ans_some, b_257_12, ite0_t i1, b_257_15, c_171, am_ans_some, b_257_22, ite1_t i2]
    refine m_trading (fun k => ((qn s.t k : Nat) : Int)) hpp (qn_m (told_MI (scr a b).2 hG).tw) (told_MI (scr a b).2 hG).tw.pn h14 n1 n2 (fun t' r h1' h2' h3' => ?_)
    have : t' = t := by
      rcases Nat.lt_trichotomy t' t with h | h | h
      · exact absurd h2' (h3 t' h)
      · exact h
      · exact absurd h2 (h3' t h)
    rw [if_pos e0, this]
    exact fin a b r _
theorem p_packed {nS d c : Nat} {Mi M : am_M} {s : St} {x1 x2 : Int32} (hC : CI Mi M s) (hM : MI M s) (hG : GI c s) : prS nS (d + 12) c Mi 160 [.ref 16, .int x1, .int x2] 284 [.ref 205, .int x1, .int x2, .retAddr 0, .retAddr 0, .retAddr 0, .retAddr 0, .retAddr 0] M := by
  unfold prS
  rw [b_160_0, c_125, am_ans_some, b_160_7]
  rcases rng x1 0 99 0 99 rfl rfl (by omega) (by omega) with ⟨o1, i1⟩ | ⟨o1, i1, n, rfl, n1, n2⟩
  · rw [ite1_t o1, b_160_19]
    refine ⟨_, M, rfl, rfl, ?_⟩
    rw [b_284_0, c_171, am_ans_some, b_284_13, ite0_f i1, b_284_26]
    exact Kq_no hC hM hG
  rw [ite1_f o1, b_160_10, c_125, am_ans_some, b_160_16]
  rcases rng x2 0 2 0 2 rfl rfl (by omega) (by omega) with ⟨o2, i2⟩ | ⟨o2, i2, _⟩
  · rw [ite0_t o2, b_160_19]
    refine ⟨_, M, rfl, rfl, ?_⟩
    rw [b_284_0, c_171, am_ans_some, b_284_13, ite0_t i1, b_284_16, c_171, am_ans_some, b_284_23, ite1_f i2, b_284_26]
    exact Kq_no hC hM hG
  have h8 := hG.t.s8
  have hw : ∀ k, 0 < (if k < s.t.sn then s.t.sw k else 1) ∧ (if k < s.t.sn then s.t.sw k else 1) ≤ 30 := fun k => by
    by_cases e : k < s.t.sn
    · rw [if_pos e]; have := hG.t.sw k e; omega
    · rw [if_neg e]; omega
  have hv : ∀ k, (if k < s.t.sn then s.t.sv k else 1) ≤ 99 := fun k => by
    by_cases e : k < s.t.sn
    · rw [if_pos e]; exact (hG.t.sv k e).2
    · rw [if_neg e]; omega
  rw [ite0_f o2, b_160_21]
  refine x_fits (fun k => if k < s.t.sn then s.t.sw k else 1) (fun k => if k < s.t.sn then s.t.sv k else 1) hw hv (fun k hk => by rw [if_pos hk]; exact hC.tw.sw k hk) (fun k hk => by rw [if_pos hk]; exact hC.tw.sv k hk) hC.tw.sn h8 n2 (fun o N r ho hN => ?_)
  rw [am_ans_some, b_160_33]
  obtain ⟨hC1, hM1⟩ := cs_scr (M1 := am_row M 58 r) hC hM hG (fun a k h => row_pt M _ _ (by unfold sC at h; omega))
  refine ⟨_, _, rfl, rfl, ?_⟩
  rw [b_284_0, c_171, am_ans_some, b_284_13, ite0_t i1, b_284_16, c_171, am_ans_some, b_284_23, ite1_t i2]
  refine m_packed (fun k => if k < s.t.sn then s.t.sw k else 1) (fun k => if k < s.t.sn then s.t.sv k else 1) o hw hv (fun k hk => by rw [if_pos hk]; exact (told_MI hM1 hG).tw.sw k hk) (fun k hk => by rw [if_pos hk]; exact (told_MI hM1 hG).tw.sv k hk) (told_MI hM1 hG).tw.sn h8 n2 ho hN (fun y1 y2 => ?_)
  exact Kq_scr hC1 hM1 hG (fun a k h => by
    rw [up_pt _ _ (by unfold sM at h; omega), up_pt _ _ (by unfold sM at h; omega)]
    exact e_told _ a k h)
theorem p_row {nS d c : Nat} {Mi M : am_M} {s : St} {x1 : Int32} (hC : CI Mi M s) (hM : MI M s) (hG : GI c s) : prS nS (d + 12) c Mi 155 [.ref 16, .int x1] 261 [.ref 205, .int x1, .retAddr 0, .retAddr 0, .retAddr 0, .retAddr 0, .retAddr 0, .retAddr 0, .retAddr 0, .retAddr 0] M := by
  have h14 := hG.t.p14
  have hb : ∀ k, qn s.t k ≤ 99 := fun k => (qn_b hG.t k).2
  have mT := told_MI hM hG
  have mo : ∀ {x1 : Int32} {Q : Option Value → am_H → Prop}, (¬ x1 < 0 ∧ ¬ 4 < x1) → ¬ x1 = 0 → am_Wp (d + 12) 261 0 [.ref 205, .int x1, .retAddr 0, .retAddr 0, .retAddr 0, .retAddr 0, .retAddr 0, .retAddr 0, .retAddr 0, .retAddr 0] [] (hp nS M) Q = Q (some (.int (rwV (qn s.t) s.t.pn x1))) (hp nS (am_up M 205 0 0)) := by
    intro x1 Q i1 e0
    rw [b_261_0, c_171, am_ans_some, b_261_12, ite1_t i1, b_261_17, if_pos e0, m_row (qn s.t) (qn_m mT.tw) hb (fun k _ => (qn_b hG.t k).1) mT.tw.pn h14]
  unfold prS
  rw [b_155_0]
  by_cases e0 : x1 = 0
  · subst e0
    have i0 : ¬ (0 : Int32) < 0 ∧ ¬ (4 : Int32) < 0 := by decide
    rw [if_pos rfl, b_155_36]
    by_cases hz : s.t.pn = 0
    · have g45 : M 45 1 = 0 := by
        have : M 45 1 = nI s.t.pn := hC.tw.pn
        rw [this, hz]; rfl
      have gm : am_up M 205 0 0 205 45 = nI 0 := by rw [mT.tw.pn, hz]
      rw [b_71_0, if_neg (fun z => z g45), b_71_7, am_ans_some, b_155_46]
      refine ⟨_, M, rfl, rfl, ?_⟩
      rw [b_261_0, c_171, am_ans_some, b_261_12, ite1_t i0, b_261_17, if_neg (fun z => z rfl), b_261_21, b_262_0, b_262_2, if_pos (by rw [gm]; decide), b_262_92, am_ans_some, b_261_25]
      exact Kq_no hC hM hG
    · refine x_midst (qn s.t) (qn_c hC.tw) hb hC.tw.pn (by omega) h14 (fun v r hv => ?_)
      rw [am_ans_some, b_155_46]
      obtain ⟨hC1, hM1⟩ := cs_scr (M1 := am_row M 47 r) hC hM hG (fun a k h => row_pt M _ _ (by unfold sC at h; omega))
      refine ⟨_, _, rfl, rfl, ?_⟩
      rw [b_261_0, c_171, am_ans_some, b_261_12, ite1_t i0, b_261_17, if_neg (fun z => z rfl), b_261_21, m_midst (qn s.t) (qn_m (told_MI hM1 hG).tw) hb (told_MI hM1 hG).tw.pn h14 hv, am_ans_some, b_261_25]
      exact Kq_no hC1 hM1 hG
  rw [if_neg e0]
  by_cases e1 : x1 = 1
  · subst e1
    rw [if_pos rfl, b_155_47, x_couples (qn s.t) (qn_c hC.tw) hb hC.tw.pn h14, am_ans_some, b_155_57]
    refine ⟨_, M, rfl, rfl, ?_⟩
    rw [mo (by decide) e0, cX_cM]
    exact Kq_no hC hM hG
  rw [if_neg e1]
  by_cases e2 : x1 = 2
  · subst e2
    rw [if_pos rfl, b_155_58, x_records (qn s.t) (qn_c hC.tw) hb hC.tw.pn h14, am_ans_some, b_155_68]
    refine ⟨_, M, rfl, rfl, ?_⟩
    rw [mo (by decide) e0]
    exact Kq_no hC hM hG
  rw [if_neg e2]
  by_cases e3 : x1 = 3
  · subst e3
    rw [if_pos rfl, b_155_69, x_hats (qn s.t) (qn_c hC.tw) hb hC.tw.pn h14, am_ans_some, b_155_79]
    refine ⟨_, M, rfl, rfl, ?_⟩
    rw [mo (by decide) e0]
    exact Kq_no hC hM hG
  rw [if_neg e3]
  by_cases e4 : x1 = 4
  · subst e4
    rw [if_pos rfl, b_155_80, x_runs (qn s.t) (qn_c hC.tw) hb hC.tw.pn h14, am_ans_some, b_155_90]
    refine ⟨_, M, rfl, rfl, ?_⟩
    rw [mo (by decide) e0]
    exact Kq_no hC hM hG
  rw [if_neg e4, b_155_91]
  refine ⟨_, M, rfl, rfl, ?_⟩
  rcases rng x1 0 4 0 4 rfl rfl (by omega) (by omega) with ⟨o1, i1⟩ | ⟨o1, i1, n, rfl, n1, n2⟩
  · rw [b_261_0, c_171, am_ans_some, b_261_12, ite1_f i1, b_261_15]
    exact Kq_no hC hM hG
  · exfalso
    have : n = 0 ∨ n = 1 ∨ n = 2 ∨ n = 3 ∨ n = 4 := by omega
    rcases this with rfl | rfl | rfl | rfl | rfl
    · exact e0 rfl
    · exact e1 rfl
    · exact e2 rfl
    · exact e3 rfl
    · exact e4 rfl
end
