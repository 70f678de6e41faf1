section
theorem rngH (x : Int32) (n : Nat) (y : Int32) (hy : y = nI n) (hn : n < 1000) : ¬ (¬ x < 0 ∧ ¬ y ≤ x) ∨ ((¬ x < 0 ∧ ¬ y ≤ x) ∧ ∃ k, x = nI k ∧ k < n) := by
  subst hy
  by_cases h1 : x < 0
  · exact Or.inl (fun z => z.1 h1)
  · by_cases h2 : nI n ≤ x
    · exact Or.inl (fun z => z.2 h2)
    · refine Or.inr ⟨⟨h1, h2⟩, ?_⟩
      have h3 := lt_of' h2
      rcases pk_ix x (n := n) (by omega) with h | h | ⟨j, hj, rfl⟩
      · exact absurd h h1
      · exact absurd h h2
      · exact ⟨j, rfl, hj⟩
theorem CW_vo {w : Nat} {M : am_M} {x : Cx} {W : Rw} (h : CW w M x W) {i : Nat} (hi : i < 6) (v : Int32) : CW w (am_up M (w + 1) i v) (x.L, x.G, x.T, upd x.voice i v, x.base, x.up) W := by
  have e : ∀ a, a ≠ w + 1 → am_up M (w + 1) i v a = M a := fun a ha => up_ne _ _ _ ha
  refine ⟨by rw [e _ (by omega)]; exact h.fL, by rw [e _ (by omega)]; exact h.fG, by rw [e _ (by omega)]; exact h.fT, by rw [e _ (by omega)]; exact h.wi, by rw [e _ (by omega)]; exact h.da, by rw [e _ (by omega)]; exact h.dr, by rw [e _ (by omega)]; exact h.wr, fun k hk => ?_, by rw [e _ (by omega)]; exact h.he, by rw [e _ (by omega)]; exact h.tp, by rw [e _ (by omega)]; exact h.lo, by rw [e _ (by omega)]; exact h.sc, by rw [e _ (by omega)]; exact h.ba, by rw [e _ (by omega)]; exact h.bb, by rw [e _ (by omega)]; exact h.pr, by rw [e _ (by omega)]; exact h.pu, by rw [e _ (by omega)]; exact h.ru, by rw [e _ (by omega)]; exact h.st⟩
  rw [up_same]
  show upd (M (w + 1)) i v k = upd x.voice i v k
  rw [upd_at, upd_at]
  by_cases ek : k = i
  · rw [if_pos ek, if_pos ek]
  · rw [if_neg ek, if_neg ek]; exact h.vo k hk
theorem CW_ba {w : Nat} {M : am_M} {x : Cx} {W : Rw} (h : CW w M x W) {i : Nat} (hi : i < 8) (v : Int32) : CW w (am_up M (w + 6) i v) (x.L, x.G, x.T, x.voice, upd x.base i v, x.up) W := by
  have e : ∀ a, a ≠ w + 6 → am_up M (w + 6) i v a = M a := fun a ha => up_ne _ _ _ ha
  refine ⟨by rw [e _ (by omega)]; exact h.fL, by rw [e _ (by omega)]; exact h.fG, by rw [e _ (by omega)]; exact h.fT, by rw [e _ (by omega)]; exact h.wi, by rw [e _ (by omega)]; exact h.da, by rw [e _ (by omega)]; exact h.dr, by rw [e _ (by omega)]; exact h.wr, by rw [e _ (by omega)]; exact h.vo, by rw [e _ (by omega)]; exact h.he, by rw [e _ (by omega)]; exact h.tp, by rw [e _ (by omega)]; exact h.lo, by rw [e _ (by omega)]; exact h.sc, fun k hk => ?_, by rw [e _ (by omega)]; exact h.bb, by rw [e _ (by omega)]; exact h.pr, by rw [e _ (by omega)]; exact h.pu, by rw [e _ (by omega)]; exact h.ru, by rw [e _ (by omega)]; exact h.st⟩
  rw [up_same]
  show upd (M (w + 6)) i v k = upd x.base i v k
  rw [upd_at, upd_at]
  by_cases ek : k = i
  · rw [if_pos ek, if_pos ek]
  · rw [if_neg ek, if_neg ek]; exact h.ba k hk
theorem WG_x {c : Nat} {x x' : Cx} {W : Rw} (h : WG c x W) (e1 : x'.L = x.L) (e2 : x'.G = x.G) (e3 : x'.T = x.T) : WG c x' W := ⟨WOk_x h.ok (by omega), ⟨fun k q1 q2 => h.z.h k q1 (by omega), fun k q1 q2 => h.z.t k q1 (by omega), fun k q1 q2 => h.z.l k q1 (by omega), fun k q1 q2 => h.z.s k q1 (by omega), fun k q1 q2 => h.z.r k q1 (by omega), fun t g q1 q2 q3 => h.z.st t g q1 q2 (by omega)⟩, h.d⟩
theorem WG_pr {c : Nat} {x : Cx} {W : Rw} {g n : Nat} (h : WG c x W) (hG : x.G ≤ 8) (hg : g < x.G) (h1 : 1 ≤ n) (h2 : n ≤ 999) : WG c x (upd W (28 + g) (nI n)) := ⟨WOk_pr h.ok (by omega) ⟨n, rfl, h1, h2⟩ hG, ⟨fun k q1 q2 => by rw [upd_ne _ _ (by omega)]; exact h.z.h k q1 q2, fun k q1 q2 => by rw [upd_ne _ _ (by omega)]; exact h.z.t k q1 q2, fun k q1 q2 => by rw [upd_ne _ _ (by omega)]; exact h.z.l k q1 q2, fun k q1 q2 => by rw [upd_ne _ _ (by omega)]; exact h.z.s k q1 q2, fun k q1 q2 => by rw [upd_ne _ _ (by omega)]; exact h.z.r k q1 q2, fun t g q1 q2 q3 => by rw [upd_ne _ _ (by omega)]; exact h.z.st t g q1 q2 q3⟩, by obtain ⟨q, q1, q2⟩ := h.d; exact ⟨q, by rw [upd_ne _ _ (by omega)]; exact q1, q2⟩⟩
theorem WG_pu {c : Nat} {x : Cx} {W : Rw} {t n : Nat} (h : WG c x W) (hG : x.G ≤ 8) (ht : t < 10) (h2 : n ≤ 9999) : WG c x (upd W (36 + t) (nI n)) := by
  have hpn : n ≤ 9999 + 1582416 * c := Nat.le_trans h2 (Nat.le_add_right _ _)
  have hpp : ∃ m, nI n = nI m ∧ m ≤ 9999 + 1582416 * c := ⟨n, rfl, hpn⟩
  have hok := h.ok
  have hok2 := WOk_pu hok ht hpp hG
  exact ⟨hok2, ⟨fun k q1 q2 => by rw [upd_ne _ _ (by omega)]; exact h.z.h k q1 q2, fun k q1 q2 => by rw [upd_ne _ _ (by omega)]; exact h.z.t k q1 q2, fun k q1 q2 => by rw [upd_ne _ _ (by omega)]; exact h.z.l k q1 q2, fun k q1 q2 => by rw [upd_ne _ _ (by omega)]; exact h.z.s k q1 q2, fun k q1 q2 => by rw [upd_ne _ _ (by omega)]; exact h.z.r k q1 q2, fun t g q1 q2 q3 => by rw [upd_ne _ _ (by omega)]; exact h.z.st t g q1 q2 q3⟩, by obtain ⟨q, q1, q2⟩ := h.d; exact ⟨q, by rw [upd_ne _ _ (by omega)]; exact q1, q2⟩⟩
/-- the world's row alone anew -/
theorem p_W {nS c : Nat} {Mi M : am_M} {s : St} {j : Nat} {v : Int32} (hC : CI Mi M s) (hM : MI M s) (hG : GI c s) {Mc : am_M} (hcw : CW 18 Mc s.t.x (upd s.t.W j v)) (hfc : ∀ a k, ¬ (18 ≤ a ∧ a ≤ 29) → Mc a k = M a k) (hw : WG (c + 1) s.t.x (upd s.t.W j v)) {Q : am_M → Prop} (hmo : ∀ M1, MI M1 s → Q M1 = Kq nS c Mi 1 (some (.int 1)) (hp nS (am_up (am_up (am_up M1 205 0 0) 206 j v) 205 5 0))) : Q (am_up Mc 113 2 0) := by
  have hGT := GT_mono hG.t (show c ≤ c + 1 by omega)
  have hC1 : CI Mi (am_up Mc 113 2 0) (sT0 s (tX s.t s.t.x (upd s.t.W j v))) := CI_T0 hC (CT_X hC.tw (by omega) (CW_of hcw (fun a h1 h2 => up_ne _ _ _ (by omega))) (fun a k h1 h2 h3 h4 => by rw [up_pt _ _ (by omega)]; exact hfc a k (by omega))) (by rw [up_same, upd_same]) (fun a k h1 h2 h3 h4 => by rw [up_pt _ _ h3]; exact hfc a k (by omega))
  have hM1 : MI (am_up Mc 113 2 0) s := MI_fr hM hG (fun a ha => funext fun k => by rw [up_pt _ _ (by omega)]; exact hfc a k (by omega))
  have hMT := told_MI hM1 hG
  rw [hmo _ hM1]
  refine Kq_X hC1 hMT hG (Fm_up _ _ (by omega)) (fun k hk => ?_) (MX_5 ?_ 0) (fun a k q => by rw [up_pt _ _ (by omega), up_pt _ _ (by omega)]) (by rw [up_same, upd_same]) (GT_W hGT hw)
  · rw [up_ne _ _ _ (by decide), up_same, upd_at, upd_at]
    by_cases ek : k = j
    · rw [if_pos ek, if_pos ek]
    · rw [if_neg ek, if_neg ek]; exact hMT.tw.w k hk
  · exact ⟨by rw [up_pt _ _ (by omega)]; exact hMT.tw.mx.fL, by rw [up_pt _ _ (by omega)]; exact hMT.tw.mx.fG, by rw [up_pt _ _ (by omega)]; exact hMT.tw.mx.fT, fun k hk => by rw [up_pt _ _ (by omega)]; exact hMT.tw.mx.vo k hk, fun k hk => by rw [up_pt _ _ (by omega)]; exact hMT.tw.mx.ba k hk, fun k hk => by rw [up_pt _ _ (by omega)]; exact hMT.tw.mx.up k hk⟩
theorem set_ok (n : Int32) : am_rok .boolean 0 = true ∧ am_rok .boolean 1 = true := ⟨rok0, rok1⟩
theorem p_set0 {nS d c : Nat} {Mi M : am_M} {s : St} {x2 x3 : Int32} (hC : CI Mi M s) (hM : MI M s) (hG : GI c s) : prS nS (d + 12) c Mi 128 [.ref 16, .int 0, .int x2, .int x3, .retAddr 0] 175 [.ref 205, .int 0, .int x2, .int x3] M := by
  have hGT := GT_mono hG.t (show c ≤ c + 1 by omega)
  have hL6 := hG.t.L6
  have hG8 := hG.t.G8
  have hT10 := hG.t.T10
  have g18L : M 18 0 = nI s.t.x.L := hC.tw.w.fL
  have g18G : M 18 1 = nI s.t.x.G := hC.tw.w.fG
  have g18T : M 18 2 = nI s.t.x.T := hC.tw.w.fT
  unfold prS
  rcases rngH x2 s.t.x.L (nI s.t.x.L) rfl (by omega) with hn | ⟨hh, i, rfl, hi⟩
  · rw [b_128_0, if_neg (by decide), b_128_5, b_103_0, c_104, am_ans_some, b_103_5, ite1_f (by rw [g18L]; exact hn), b_103_8, am_ans_some, b_128_18, b_128_34, if_pos rfl, b_128_48 rok0]
    refine ⟨_, M, rfl, rfl, ?_⟩
    rw [b_175_0, b_176_0, if_pos (by decide), b_176_15, c_171, am_ans_some, b_176_22, ite0_t (by decide), b_176_25, c_177, am_ans_some, b_176_30, ite0_f (by rw [(told_MI hM hG).tw.mx.fL]; exact hn), b_176_59, b_176_60 rok0, am_ans_some, b_175_12, if_neg (fun z => z rfl), b_175_15]
    exact Kq_no hC hM hG
  have gX : am_up M 205 0 0 205 8 = nI s.t.x.L := (told_MI hM hG).tw.mx.fL
  rcases rng x3 0 9 0 9 rfl rfl (by omega) (by omega) with ⟨o, iv⟩ | ⟨o, iv, n, rfl, n1, n2⟩
  · have fin : ∃ v M1, some (Value.int 0) = some (Value.int v) ∧ hp nS M = hp nS M1 ∧ am_Wp (d + 12) 175 0 [.ref 205, .int 0, .int (nI i), .int x3] [] (hp nS M1) (Kq nS c Mi v) := by
      refine ⟨_, M, rfl, rfl, ?_⟩
      rw [b_175_0, b_176_0, if_pos (by decide), b_176_15, c_171, am_ans_some, b_176_22, ite0_t (by decide), b_176_25, c_177, am_ans_some, b_176_30, ite0_t (by rw [gX]; exact hh), b_176_33, if_pos (by decide), b_176_47, b_176_49, c_171, am_ans_some, b_176_52, ite0_f iv, b_176_59, b_176_60 rok0, am_ans_some, b_175_12, if_neg (fun z => z rfl), b_175_15]
      exact Kq_no hC hM hG
    by_cases z1 : x3 < 0
    · rw [b_128_0, if_neg (by decide), b_128_5, b_103_0, c_104, am_ans_some, b_103_5, ite1_t (by rw [g18L]; exact hh), b_103_10, if_neg (fun z => z rfl), b_103_14, if_pos z1, b_103_33, if_pos (by decide), b_103_58, if_pos (by decide), b_103_82, am_ans_some, b_128_18, b_128_34, if_pos rfl, b_128_48 rok0]
      exact fin
    · by_cases z2 : 9 < x3
      · rw [b_128_0, if_neg (by decide), b_128_5, b_103_0, c_104, am_ans_some, b_103_5, ite1_t (by rw [g18L]; exact hh), b_103_10, if_neg (fun z => z rfl), b_103_14, if_neg z1, b_103_18, if_pos z2, b_103_33, if_pos (by decide), b_103_58, if_pos (by decide), b_103_82, am_ans_some, b_128_18, b_128_34, if_pos rfl, b_128_48 rok0]
        exact fin
      · exact absurd ⟨z1, z2⟩ iv
  rw [b_128_0, if_neg (by decide), b_128_5, b_103_0, c_104, am_ans_some, b_103_5, ite1_t (by rw [g18L]; exact hh), b_103_10, if_neg (fun z => z rfl), b_103_14, if_neg iv.1, b_103_18, if_neg iv.2, b_103_24 (by first | exact in_n (by omega) (by omega) | (simp only [li, nI_add, pk_mul]; exact in_n (by omega) (by omega))), cl_n (by omega), am_ans_some, b_128_18, b_128_34, if_neg (by decide), b_128_41, c_37, am_ans_none, b_128_48 rok1]
  refine ⟨_, _, rfl, rfl, ?_⟩
  have hC1 : CI Mi (am_up (am_up M 19 i (nI n)) 113 2 0) (sT0 s (tX s.t (s.t.x.L, s.t.x.G, s.t.x.T, upd s.t.x.voice i (nI n), s.t.x.base, s.t.x.up) s.t.W)) := CI_T0 hC (CT_X hC.tw (by omega) (CW_of (CW_vo hC.tw.w (by omega) (nI n)) (fun a h1 h2 => up_ne _ _ _ (by omega))) (fun a k h1 h2 h3 h4 => by rw [up_pt _ _ (by omega), up_pt _ _ (by omega)])) (by rw [up_same, upd_same]) (fun a k h1 h2 h3 h4 => by rw [up_pt _ _ (by omega), up_pt _ _ (by omega)])
  have hM1 : MI (am_up (am_up M 19 i (nI n)) 113 2 0) s := MI_fr hM hG (Fc_tr (Fc_up _ _ (by omega)) (Fc_up _ _ (by omega)))
  have hMT := told_MI hM1 hG
  generalize am_up (am_up M 19 i (nI n)) 113 2 0 = M1 at *
  have gX : am_up M1 205 0 0 205 8 = nI s.t.x.L := hMT.tw.mx.fL
  rw [b_175_0, b_176_0, if_pos (by decide), b_176_15, c_171, am_ans_some, b_176_22, ite0_t (by decide), b_176_25, c_177, am_ans_some, b_176_30, ite0_t (by rw [gX]; exact hh), b_176_33, if_pos (by decide), b_176_47, b_176_49, c_171, am_ans_some, b_176_52, ite0_t iv, b_176_55, b_176_60 rok1, am_ans_some, b_175_12, if_pos (by decide), b_175_17, if_neg (fun z => z rfl), b_175_21 (by first | exact in_n (by omega) (by omega) | (simp only [li, nI_add, pk_mul]; exact in_n (by omega) (by omega))), cl_n (by omega), b_175_28, if_pos (by decide), b_175_42, if_pos (by decide), b_175_57, if_pos (by decide), b_175_69, if_pos (by decide), b_175_84, if_pos (by decide), b_175_99, if_pos (by decide), b_175_112]
  refine Kq_X hC1 hMT hG (Fm_up _ _ (by omega)) (fun k hk => by rw [up_ne _ _ _ (by decide), up_ne _ _ _ (by decide)]; exact hMT.tw.w k hk) (MX_5 ⟨by rw [up_pt _ _ (by omega)]; exact hMT.tw.mx.fL, by rw [up_pt _ _ (by omega)]; exact hMT.tw.mx.fG, by rw [up_pt _ _ (by omega)]; exact hMT.tw.mx.fT, fun k hk => ?_, fun k hk => ?_, fun k hk => by rw [up_pt _ _ (by omega)]; exact hMT.tw.mx.up k hk⟩ 0) (fun a k q => by rw [up_pt _ _ (by omega), up_pt _ _ (by omega)]) (by rw [up_same, upd_same]) (GT_X hGT hG.t.L6 hG.t.G8 hG.t.T10 hG.t.up hG.t.u0 hG.t.dk hG.t.tk (WG_x hGT.wg rfl rfl rfl))
  · rw [up_same]
    show upd (am_up M1 205 0 0 209) i (nI n) k = upd s.t.x.voice i (nI n) k
    rw [upd_at, upd_at]
    by_cases ek : k = i
    · rw [if_pos ek, if_pos ek]
    · rw [if_neg ek, if_neg ek]; exact hMT.tw.mx.vo k hk
  · rw [up_pt _ _ (by omega)]; exact hMT.tw.mx.ba k hk
theorem p_set1 {nS d c : Nat} {Mi M : am_M} {s : St} {x2 x3 : Int32} (hC : CI Mi M s) (hM : MI M s) (hG : GI c s) : prS nS (d + 12) c Mi 128 [.ref 16, .int 1, .int x2, .int x3, .retAddr 0] 175 [.ref 205, .int 1, .int x2, .int x3] M := by
  have hGT := GT_mono hG.t (show c ≤ c + 1 by omega)
  have hL6 := hG.t.L6
  have hG8 := hG.t.G8
  have hT10 := hG.t.T10
  have g18L : M 18 0 = nI s.t.x.L := hC.tw.w.fL
  have g18G : M 18 1 = nI s.t.x.G := hC.tw.w.fG
  have g18T : M 18 2 = nI s.t.x.T := hC.tw.w.fT
  unfold prS
  rcases rngH x2 s.t.x.L (nI s.t.x.L) rfl (by omega) with hn | ⟨hh, i, rfl, hi⟩
  · rw [b_128_0, if_neg (by decide), b_128_5, b_103_0, c_104, am_ans_some, b_103_5, ite1_f (by rw [g18L]; exact hn), b_103_8, am_ans_some, b_128_18, b_128_34, if_pos rfl, b_128_48 rok0]
    refine ⟨_, M, rfl, rfl, ?_⟩
    rw [b_175_0, b_176_0, if_pos (by decide), b_176_15, c_171, am_ans_some, b_176_22, ite0_t (by decide), b_176_25, c_177, am_ans_some, b_176_30, ite0_f (by rw [(told_MI hM hG).tw.mx.fL]; exact hn), b_176_59, b_176_60 rok0, am_ans_some, b_175_12, if_neg (fun z => z rfl), b_175_15]
    exact Kq_no hC hM hG
  have gX : am_up M 205 0 0 205 8 = nI s.t.x.L := (told_MI hM hG).tw.mx.fL
  rcases rng x3 0 999 0 999 rfl rfl (by omega) (by omega) with ⟨o, iv⟩ | ⟨o, iv, n, rfl, n1, n2⟩
  · have fin : ∃ v M1, some (Value.int 0) = some (Value.int v) ∧ hp nS M = hp nS M1 ∧ am_Wp (d + 12) 175 0 [.ref 205, .int 1, .int (nI i), .int x3] [] (hp nS M1) (Kq nS c Mi v) := by
      refine ⟨_, M, rfl, rfl, ?_⟩
      rw [b_175_0, b_176_0, if_pos (by decide), b_176_15, c_171, am_ans_some, b_176_22, ite0_t (by decide), b_176_25, c_177, am_ans_some, b_176_30, ite0_t (by rw [gX]; exact hh), b_176_33, if_neg (fun z => z rfl), b_176_41, b_176_49, c_171, am_ans_some, b_176_52, ite0_f iv, b_176_59, b_176_60 rok0, am_ans_some, b_175_12, if_neg (fun z => z rfl), b_175_15]
      exact Kq_no hC hM hG
    by_cases z1 : x3 < 0
    · rw [b_128_0, if_neg (by decide), b_128_5, b_103_0, c_104, am_ans_some, b_103_5, ite1_t (by rw [g18L]; exact hh), b_103_10, if_pos (by decide), b_103_33, if_neg (fun z => z rfl), b_103_38, if_pos z1, b_103_58, if_pos (by decide), b_103_82, am_ans_some, b_128_18, b_128_34, if_pos rfl, b_128_48 rok0]
      exact fin
    · by_cases z2 : 999 < x3
      · rw [b_128_0, if_neg (by decide), b_128_5, b_103_0, c_104, am_ans_some, b_103_5, ite1_t (by rw [g18L]; exact hh), b_103_10, if_pos (by decide), b_103_33, if_neg (fun z => z rfl), b_103_38, if_neg z1, b_103_42, if_pos z2, b_103_58, if_pos (by decide), b_103_82, am_ans_some, b_128_18, b_128_34, if_pos rfl, b_128_48 rok0]
        exact fin
      · exact absurd ⟨z1, z2⟩ iv
  rw [b_128_0, if_neg (by decide), b_128_5, b_103_0, c_104, am_ans_some, b_103_5, ite1_t (by rw [g18L]; exact hh), b_103_10, if_pos (by decide), b_103_33, if_neg (fun z => z rfl), b_103_38, if_neg iv.1, b_103_42, if_neg iv.2, b_103_49 (by first | exact in_n (by omega) (by omega) | (simp only [li, nI_add, pk_mul]; exact in_n (by omega) (by omega))), cl_n (by omega), am_ans_some, b_128_18, b_128_34, if_neg (by decide), b_128_41, c_37, am_ans_none, b_128_48 rok1]
  refine ⟨_, _, rfl, rfl, ?_⟩
  refine p_W (nS := nS) (j := 4 + i) (v := nI n) hC hM hG (CW_he hC.tw.w (by omega) (nI n)) (fun a k q => up_pt _ _ (by omega)) (WG_oth hGT.wg (nI n) hG.t.G8 (Or.inr (Or.inr ⟨i, hi, hG.t.L6, Or.inl rfl⟩))) (Q := fun M1 => am_Wp (d + 12) 175 0 [.ref 205, .int 1, .int (nI i), .int (nI n)] [] (hp nS M1) (Kq nS c Mi 1)) (fun M1 h1 => ?_)
  have gX : am_up M1 205 0 0 205 8 = nI s.t.x.L := (told_MI h1 hG).tw.mx.fL
  show am_Wp (d + 12) 175 0 [.ref 205, .int 1, .int (nI i), .int (nI n)] [] (hp nS M1) (Kq nS c Mi 1) = _
  rw [b_175_0, b_176_0, if_pos (by decide), b_176_15, c_171, am_ans_some, b_176_22, ite0_t (by decide), b_176_25, c_177, am_ans_some, b_176_30, ite0_t (by rw [gX]; exact hh), b_176_33, if_neg (fun z => z rfl), b_176_41, b_176_49, c_171, am_ans_some, b_176_52, ite0_t iv, b_176_55, b_176_60 rok1, am_ans_some, b_175_12, if_pos (by decide), b_175_17, if_pos (by decide), b_175_28, if_neg (fun z => z rfl), b_175_33 (by rw [adl]; exact in_n (by omega) (by omega)), adl, cl_n (by omega), b_175_42, if_pos (by decide), b_175_57, if_pos (by decide), b_175_69, if_pos (by decide), b_175_84, if_pos (by decide), b_175_99, if_pos (by decide), b_175_112]
theorem p_set2 {nS d c : Nat} {Mi M : am_M} {s : St} {x2 x3 : Int32} (hC : CI Mi M s) (hM : MI M s) (hG : GI c s) : prS nS (d + 12) c Mi 128 [.ref 16, .int 2, .int x2, .int x3, .retAddr 0] 175 [.ref 205, .int 2, .int x2, .int x3] M := by
  have hGT := GT_mono hG.t (show c ≤ c + 1 by omega)
  have hL6 := hG.t.L6
  have hG8 := hG.t.G8
  have hT10 := hG.t.T10
  have g18L : M 18 0 = nI s.t.x.L := hC.tw.w.fL
  have g18G : M 18 1 = nI s.t.x.G := hC.tw.w.fG
  have g18T : M 18 2 = nI s.t.x.T := hC.tw.w.fT
  unfold prS
  rcases rngH x2 s.t.x.L (nI s.t.x.L) rfl (by omega) with hn | ⟨hh, i, rfl, hi⟩
  · rw [b_128_0, if_neg (by decide), b_128_5, b_103_0, c_104, am_ans_some, b_103_5, ite1_f (by rw [g18L]; exact hn), b_103_8, am_ans_some, b_128_18, b_128_34, if_pos rfl, b_128_48 rok0]
    refine ⟨_, M, rfl, rfl, ?_⟩
    rw [b_175_0, b_176_0, if_pos (by decide), b_176_15, c_171, am_ans_some, b_176_22, ite0_t (by decide), b_176_25, c_177, am_ans_some, b_176_30, ite0_f (by rw [(told_MI hM hG).tw.mx.fL]; exact hn), b_176_59, b_176_60 rok0, am_ans_some, b_175_12, if_neg (fun z => z rfl), b_175_15]
    exact Kq_no hC hM hG
  have gX : am_up M 205 0 0 205 8 = nI s.t.x.L := (told_MI hM hG).tw.mx.fL
  rcases rng x3 0 9 0 9 rfl rfl (by omega) (by omega) with ⟨o, iv⟩ | ⟨o, iv, n, rfl, n1, n2⟩
  · have fin : ∃ v M1, some (Value.int 0) = some (Value.int v) ∧ hp nS M = hp nS M1 ∧ am_Wp (d + 12) 175 0 [.ref 205, .int 2, .int (nI i), .int x3] [] (hp nS M1) (Kq nS c Mi v) := by
      refine ⟨_, M, rfl, rfl, ?_⟩
      rw [b_175_0, b_176_0, if_pos (by decide), b_176_15, c_171, am_ans_some, b_176_22, ite0_t (by decide), b_176_25, c_177, am_ans_some, b_176_30, ite0_t (by rw [gX]; exact hh), b_176_33, if_pos (by decide), b_176_47, b_176_49, c_171, am_ans_some, b_176_52, ite0_f iv, b_176_59, b_176_60 rok0, am_ans_some, b_175_12, if_neg (fun z => z rfl), b_175_15]
      exact Kq_no hC hM hG
    by_cases z1 : x3 < 0
    · rw [b_128_0, if_neg (by decide), b_128_5, b_103_0, c_104, am_ans_some, b_103_5, ite1_t (by rw [g18L]; exact hh), b_103_10, if_pos (by decide), b_103_33, if_pos (by decide), b_103_58, if_neg (fun z => z rfl), b_103_63, if_pos z1, b_103_82, am_ans_some, b_128_18, b_128_34, if_pos rfl, b_128_48 rok0]
      exact fin
    · by_cases z2 : 9 < x3
      · rw [b_128_0, if_neg (by decide), b_128_5, b_103_0, c_104, am_ans_some, b_103_5, ite1_t (by rw [g18L]; exact hh), b_103_10, if_pos (by decide), b_103_33, if_pos (by decide), b_103_58, if_neg (fun z => z rfl), b_103_63, if_neg z1, b_103_67, if_pos z2, b_103_82, am_ans_some, b_128_18, b_128_34, if_pos rfl, b_128_48 rok0]
        exact fin
      · exact absurd ⟨z1, z2⟩ iv
  rw [b_128_0, if_neg (by decide), b_128_5, b_103_0, c_104, am_ans_some, b_103_5, ite1_t (by rw [g18L]; exact hh), b_103_10, if_pos (by decide), b_103_33, if_pos (by decide), b_103_58, if_neg (fun z => z rfl), b_103_63, if_neg iv.1, b_103_67, if_neg iv.2, b_103_73 (by first | exact in_n (by omega) (by omega) | (simp only [li, nI_add, pk_mul]; exact in_n (by omega) (by omega))), cl_n (by omega), am_ans_some, b_128_18, b_128_34, if_neg (by decide), b_128_41, c_37, am_ans_none, b_128_48 rok1]
  refine ⟨_, _, rfl, rfl, ?_⟩
  refine p_W (nS := nS) (j := 22 + i) (v := nI n) hC hM hG (CW_sc hC.tw.w (by omega) (nI n)) (fun a k q => up_pt _ _ (by omega)) (WG_oth hGT.wg (nI n) hG.t.G8 (Or.inr (Or.inr ⟨i, hi, hG.t.L6, Or.inr rfl⟩))) (Q := fun M1 => am_Wp (d + 12) 175 0 [.ref 205, .int 2, .int (nI i), .int (nI n)] [] (hp nS M1) (Kq nS c Mi 1)) (fun M1 h1 => ?_)
  have gX : am_up M1 205 0 0 205 8 = nI s.t.x.L := (told_MI h1 hG).tw.mx.fL
  show am_Wp (d + 12) 175 0 [.ref 205, .int 2, .int (nI i), .int (nI n)] [] (hp nS M1) (Kq nS c Mi 1) = _
  rw [b_175_0, b_176_0, if_pos (by decide), b_176_15, c_171, am_ans_some, b_176_22, ite0_t (by decide), b_176_25, c_177, am_ans_some, b_176_30, ite0_t (by rw [gX]; exact hh), b_176_33, if_pos (by decide), b_176_47, b_176_49, c_171, am_ans_some, b_176_52, ite0_t iv, b_176_55, b_176_60 rok1, am_ans_some, b_175_12, if_pos (by decide), b_175_17, if_pos (by decide), b_175_28, if_pos (by decide), b_175_42, if_neg (fun z => z rfl), b_175_47 (by rw [adl]; exact in_n (by omega) (by omega)), adl, cl_n (by omega), b_175_57, if_pos (by decide), b_175_69, if_pos (by decide), b_175_84, if_pos (by decide), b_175_99, if_pos (by decide), b_175_112]
theorem p_set3 {nS d c : Nat} {Mi M : am_M} {s : St} {x2 x3 : Int32} (hC : CI Mi M s) (hM : MI M s) (hG : GI c s) : prS nS (d + 12) c Mi 128 [.ref 16, .int 3, .int x2, .int x3, .retAddr 0] 175 [.ref 205, .int 3, .int x2, .int x3] M := by
  have hGT := GT_mono hG.t (show c ≤ c + 1 by omega)
  have hL6 := hG.t.L6
  have hG8 := hG.t.G8
  have hT10 := hG.t.T10
  have g18L : M 18 0 = nI s.t.x.L := hC.tw.w.fL
  have g18G : M 18 1 = nI s.t.x.G := hC.tw.w.fG
  have g18T : M 18 2 = nI s.t.x.T := hC.tw.w.fT
  unfold prS
  rcases rngH x2 s.t.x.G (nI s.t.x.G) rfl (by omega) with hn | ⟨hh, i, rfl, hi⟩
  · rw [b_128_0, if_pos (by decide), b_128_21, b_105_0, if_neg (fun z => z rfl), b_105_5, c_106, am_ans_some, b_105_10, ite0_f (by rw [g18G]; exact hn), b_105_33, if_pos (by decide), b_105_67, if_pos (by decide), b_105_100, if_pos (by decide), b_105_123, am_ans_some, b_128_34, if_pos rfl, b_128_48 rok0]
    refine ⟨_, M, rfl, rfl, ?_⟩
    rw [b_175_0, b_176_0, if_pos (by decide), b_176_15, c_171, am_ans_some, b_176_22, ite0_f (by decide), b_176_61, c_171, am_ans_some, b_176_68, ite0_t (by decide), b_176_71, c_178, am_ans_some, b_176_76, ite0_f (by rw [(told_MI hM hG).tw.mx.fG]; exact hn), b_176_105, b_176_106 rok0, am_ans_some, b_175_12, if_neg (fun z => z rfl), b_175_15]
    exact Kq_no hC hM hG
  have gX : am_up M 205 0 0 205 9 = nI s.t.x.G := (told_MI hM hG).tw.mx.fG
  rcases rng x3 1 99 1 99 rfl rfl (by omega) (by omega) with ⟨o, iv⟩ | ⟨o, iv, n, rfl, n1, n2⟩
  · have fin : ∃ v M1, some (Value.int 0) = some (Value.int v) ∧ hp nS M = hp nS M1 ∧ am_Wp (d + 12) 175 0 [.ref 205, .int 3, .int (nI i), .int x3] [] (hp nS M1) (Kq nS c Mi v) := by
      refine ⟨_, M, rfl, rfl, ?_⟩
      rw [b_175_0, b_176_0, if_pos (by decide), b_176_15, c_171, am_ans_some, b_176_22, ite0_f (by decide), b_176_61, c_171, am_ans_some, b_176_68, ite0_t (by decide), b_176_71, c_178, am_ans_some, b_176_76, ite0_t (by rw [gX]; exact hh), b_176_79, if_neg (fun z => z rfl), b_176_87, b_176_95, c_171, am_ans_some, b_176_98, ite0_f iv, b_176_105, b_176_106 rok0, am_ans_some, b_175_12, if_neg (fun z => z rfl), b_175_15]
      exact Kq_no hC hM hG
    by_cases z1 : x3 < 1
    · rw [b_128_0, if_pos (by decide), b_128_21, b_105_0, if_neg (fun z => z rfl), b_105_5, c_106, am_ans_some, b_105_10, ite0_t (by rw [g18G]; exact hh), b_105_13, if_pos z1, b_105_33, if_pos (by decide), b_105_67, if_pos (by decide), b_105_100, if_pos (by decide), b_105_123, am_ans_some, b_128_34, if_pos rfl, b_128_48 rok0]
      exact fin
    · by_cases z2 : 99 < x3
      · rw [b_128_0, if_pos (by decide), b_128_21, b_105_0, if_neg (fun z => z rfl), b_105_5, c_106, am_ans_some, b_105_10, ite0_t (by rw [g18G]; exact hh), b_105_13, if_neg z1, b_105_18, if_pos z2, b_105_33, if_pos (by decide), b_105_67, if_pos (by decide), b_105_100, if_pos (by decide), b_105_123, am_ans_some, b_128_34, if_pos rfl, b_128_48 rok0]
        exact fin
      · exact absurd ⟨z1, z2⟩ iv
  rw [b_128_0, if_pos (by decide), b_128_21, b_105_0, if_neg (fun z => z rfl), b_105_5, c_106, am_ans_some, b_105_10, ite0_t (by rw [g18G]; exact hh), b_105_13, if_neg iv.1, b_105_18, if_neg iv.2, b_105_24 (by first | exact in_n (by omega) (by omega) | (simp only [li, nI_add, pk_mul]; exact in_n (by omega) (by omega))), cl_n (by omega), am_ans_some, b_128_34, if_neg (by decide), b_128_41, c_37, am_ans_none, b_128_48 rok1]
  refine ⟨_, _, rfl, rfl, ?_⟩
  have hC1 : CI Mi (am_up (am_up M 24 i (nI n)) 113 2 0) (sT0 s (tX s.t (s.t.x.L, s.t.x.G, s.t.x.T, s.t.x.voice, upd s.t.x.base i (nI n), s.t.x.up) s.t.W)) := CI_T0 hC (CT_X hC.tw (by omega) (CW_of (CW_ba hC.tw.w (by omega) (nI n)) (fun a h1 h2 => up_ne _ _ _ (by omega))) (fun a k h1 h2 h3 h4 => by rw [up_pt _ _ (by omega), up_pt _ _ (by omega)])) (by rw [up_same, upd_same]) (fun a k h1 h2 h3 h4 => by rw [up_pt _ _ (by omega), up_pt _ _ (by omega)])
  have hM1 : MI (am_up (am_up M 24 i (nI n)) 113 2 0) s := MI_fr hM hG (Fc_tr (Fc_up _ _ (by omega)) (Fc_up _ _ (by omega)))
  have hMT := told_MI hM1 hG
  generalize am_up (am_up M 24 i (nI n)) 113 2 0 = M1 at *
  have gX : am_up M1 205 0 0 205 9 = nI s.t.x.G := hMT.tw.mx.fG
  rw [b_175_0, b_176_0, if_pos (by decide), b_176_15, c_171, am_ans_some, b_176_22, ite0_f (by decide), b_176_61, c_171, am_ans_some, b_176_68, ite0_t (by decide), b_176_71, c_178, am_ans_some, b_176_76, ite0_t (by rw [gX]; exact hh), b_176_79, if_neg (fun z => z rfl), b_176_87, b_176_95, c_171, am_ans_some, b_176_98, ite0_t iv, b_176_101, b_176_106 rok1, am_ans_some, b_175_12, if_pos (by decide), b_175_17, if_pos (by decide), b_175_28, if_pos (by decide), b_175_42, if_pos (by decide), b_175_57, if_neg (fun z => z rfl), b_175_62 (by first | exact in_n (by omega) (by omega) | (simp only [li, nI_add, pk_mul]; exact in_n (by omega) (by omega))), cl_n (by omega), b_175_69, if_pos (by decide), b_175_84, if_pos (by decide), b_175_99, if_pos (by decide), b_175_112]
  refine Kq_X hC1 hMT hG (Fm_up _ _ (by omega)) (fun k hk => by rw [up_ne _ _ _ (by decide), up_ne _ _ _ (by decide)]; exact hMT.tw.w k hk) (MX_5 ⟨by rw [up_pt _ _ (by omega)]; exact hMT.tw.mx.fL, by rw [up_pt _ _ (by omega)]; exact hMT.tw.mx.fG, by rw [up_pt _ _ (by omega)]; exact hMT.tw.mx.fT, fun k hk => ?_, fun k hk => ?_, fun k hk => by rw [up_pt _ _ (by omega)]; exact hMT.tw.mx.up k hk⟩ 0) (fun a k q => by rw [up_pt _ _ (by omega), up_pt _ _ (by omega)]) (by rw [up_same, upd_same]) (GT_X hGT hG.t.L6 hG.t.G8 hG.t.T10 hG.t.up hG.t.u0 hG.t.dk hG.t.tk (WG_x hGT.wg rfl rfl rfl))
  · rw [up_pt _ _ (by omega)]; exact hMT.tw.mx.vo k hk
  · rw [up_same]
    show upd (am_up M1 205 0 0 210) i (nI n) k = upd s.t.x.base i (nI n) k
    rw [upd_at, upd_at]
    by_cases ek : k = i
    · rw [if_pos ek, if_pos ek]
    · rw [if_neg ek, if_neg ek]; exact hMT.tw.mx.ba k hk
theorem p_set4 {nS d c : Nat} {Mi M : am_M} {s : St} {x2 x3 : Int32} (hC : CI Mi M s) (hM : MI M s) (hG : GI c s) : prS nS (d + 12) c Mi 128 [.ref 16, .int 4, .int x2, .int x3, .retAddr 0] 175 [.ref 205, .int 4, .int x2, .int x3] M := by
  have hGT := GT_mono hG.t (show c ≤ c + 1 by omega)
  have hL6 := hG.t.L6
  have hG8 := hG.t.G8
  have hT10 := hG.t.T10
  have g18L : M 18 0 = nI s.t.x.L := hC.tw.w.fL
  have g18G : M 18 1 = nI s.t.x.G := hC.tw.w.fG
  have g18T : M 18 2 = nI s.t.x.T := hC.tw.w.fT
  unfold prS
  rcases rngH x2 s.t.x.G (nI s.t.x.G) rfl (by omega) with hn | ⟨hh, i, rfl, hi⟩
  · rw [b_128_0, if_pos (by decide), b_128_21, b_105_0, if_pos (by decide), b_105_33, if_neg (fun z => z rfl), b_105_38, c_106, am_ans_some, b_105_43, ite0_f (by rw [g18G]; exact hn), b_105_67, if_pos (by decide), b_105_100, if_pos (by decide), b_105_123, am_ans_some, b_128_34, if_pos rfl, b_128_48 rok0]
    refine ⟨_, M, rfl, rfl, ?_⟩
    rw [b_175_0, b_176_0, if_pos (by decide), b_176_15, c_171, am_ans_some, b_176_22, ite0_f (by decide), b_176_61, c_171, am_ans_some, b_176_68, ite0_t (by decide), b_176_71, c_178, am_ans_some, b_176_76, ite0_f (by rw [(told_MI hM hG).tw.mx.fG]; exact hn), b_176_105, b_176_106 rok0, am_ans_some, b_175_12, if_neg (fun z => z rfl), b_175_15]
    exact Kq_no hC hM hG
  have gX : am_up M 205 0 0 205 9 = nI s.t.x.G := (told_MI hM hG).tw.mx.fG
  rcases rng x3 1 999 1 999 rfl rfl (by omega) (by omega) with ⟨o, iv⟩ | ⟨o, iv, n, rfl, n1, n2⟩
  · have fin : ∃ v M1, some (Value.int 0) = some (Value.int v) ∧ hp nS M = hp nS M1 ∧ am_Wp (d + 12) 175 0 [.ref 205, .int 4, .int (nI i), .int x3] [] (hp nS M1) (Kq nS c Mi v) := by
      refine ⟨_, M, rfl, rfl, ?_⟩
      rw [b_175_0, b_176_0, if_pos (by decide), b_176_15, c_171, am_ans_some, b_176_22, ite0_f (by decide), b_176_61, c_171, am_ans_some, b_176_68, ite0_t (by decide), b_176_71, c_178, am_ans_some, b_176_76, ite0_t (by rw [gX]; exact hh), b_176_79, if_pos (by decide), b_176_92, b_176_95, c_171, am_ans_some, b_176_98, ite0_f iv, b_176_105, b_176_106 rok0, am_ans_some, b_175_12, if_neg (fun z => z rfl), b_175_15]
      exact Kq_no hC hM hG
    by_cases z1 : x3 < 1
    · rw [b_128_0, if_pos (by decide), b_128_21, b_105_0, if_pos (by decide), b_105_33, if_neg (fun z => z rfl), b_105_38, c_106, am_ans_some, b_105_43, ite0_t (by rw [g18G]; exact hh), b_105_46, if_pos z1, b_105_67, if_pos (by decide), b_105_100, if_pos (by decide), b_105_123, am_ans_some, b_128_34, if_pos rfl, b_128_48 rok0]
      exact fin
    · by_cases z2 : 999 < x3
      · rw [b_128_0, if_pos (by decide), b_128_21, b_105_0, if_pos (by decide), b_105_33, if_neg (fun z => z rfl), b_105_38, c_106, am_ans_some, b_105_43, ite0_t (by rw [g18G]; exact hh), b_105_46, if_neg z1, b_105_51, if_pos z2, b_105_67, if_pos (by decide), b_105_100, if_pos (by decide), b_105_123, am_ans_some, b_128_34, if_pos rfl, b_128_48 rok0]
        exact fin
      · exact absurd ⟨z1, z2⟩ iv
  rw [b_128_0, if_pos (by decide), b_128_21, b_105_0, if_pos (by decide), b_105_33, if_neg (fun z => z rfl), b_105_38, c_106, am_ans_some, b_105_43, ite0_t (by rw [g18G]; exact hh), b_105_46, if_neg iv.1, b_105_51, if_neg iv.2, b_105_58 (by first | exact in_n (by omega) (by omega) | (simp only [li, nI_add, pk_mul]; exact in_n (by omega) (by omega))), cl_n (by omega), am_ans_some, b_128_34, if_neg (by decide), b_128_41, c_37, am_ans_none, b_128_48 rok1]
  refine ⟨_, _, rfl, rfl, ?_⟩
  refine p_W (nS := nS) (j := 28 + i) (v := nI n) hC hM hG (CW_pr hC.tw.w (by omega) (nI n)) (fun a k q => up_pt _ _ (by omega)) (WG_pr hGT.wg hG.t.G8 hi n1 n2) (Q := fun M1 => am_Wp (d + 12) 175 0 [.ref 205, .int 4, .int (nI i), .int (nI n)] [] (hp nS M1) (Kq nS c Mi 1)) (fun M1 h1 => ?_)
  have gX : am_up M1 205 0 0 205 9 = nI s.t.x.G := (told_MI h1 hG).tw.mx.fG
  show am_Wp (d + 12) 175 0 [.ref 205, .int 4, .int (nI i), .int (nI n)] [] (hp nS M1) (Kq nS c Mi 1) = _
  rw [b_175_0, b_176_0, if_pos (by decide), b_176_15, c_171, am_ans_some, b_176_22, ite0_f (by decide), b_176_61, c_171, am_ans_some, b_176_68, ite0_t (by decide), b_176_71, c_178, am_ans_some, b_176_76, ite0_t (by rw [gX]; exact hh), b_176_79, if_pos (by decide), b_176_92, b_176_95, c_171, am_ans_some, b_176_98, ite0_t iv, b_176_101, b_176_106 rok1, am_ans_some, b_175_12, if_pos (by decide), b_175_17, if_pos (by decide), b_175_28, if_pos (by decide), b_175_42, if_pos (by decide), b_175_57, if_pos (by decide), b_175_69, if_neg (fun z => z rfl), b_175_74 (by rw [adl]; exact in_n (by omega) (by omega)), adl, cl_n (by omega), b_175_84, if_pos (by decide), b_175_99, if_pos (by decide), b_175_112]
theorem p_set5 {nS d c : Nat} {Mi M : am_M} {s : St} {x2 x3 : Int32} (hC : CI Mi M s) (hM : MI M s) (hG : GI c s) : prS nS (d + 12) c Mi 128 [.ref 16, .int 5, .int x2, .int x3, .retAddr 0] 175 [.ref 205, .int 5, .int x2, .int x3] M := by
  have hGT := GT_mono hG.t (show c ≤ c + 1 by omega)
  have hL6 := hG.t.L6
  have hG8 := hG.t.G8
  have hT10 := hG.t.T10
  have g18L : M 18 0 = nI s.t.x.L := hC.tw.w.fL
  have g18G : M 18 1 = nI s.t.x.G := hC.tw.w.fG
  have g18T : M 18 2 = nI s.t.x.T := hC.tw.w.fT
  unfold prS
  rcases rngH x2 s.t.x.T (nI s.t.x.T) rfl (by omega) with hn | ⟨hh, i, rfl, hi⟩
  · rw [b_128_0, if_pos (by decide), b_128_21, b_105_0, if_pos (by decide), b_105_33, if_pos (by decide), b_105_67, if_neg (fun z => z rfl), b_105_72, c_107, am_ans_some, b_105_77, ite0_f (by rw [g18T]; exact hn), b_105_100, if_pos (by decide), b_105_123, am_ans_some, b_128_34, if_pos rfl, b_128_48 rok0]
    refine ⟨_, M, rfl, rfl, ?_⟩
    rw [b_175_0, b_176_0, if_pos (by decide), b_176_15, c_171, am_ans_some, b_176_22, ite0_f (by decide), b_176_61, c_171, am_ans_some, b_176_68, ite0_f (by decide), b_176_107, if_neg (fun z => z rfl), b_176_112, c_179, am_ans_some, b_176_117, ite0_f (by rw [(told_MI hM hG).tw.mx.fT]; exact hn), b_176_136, b_176_137 rok0, am_ans_some, b_175_12, if_neg (fun z => z rfl), b_175_15]
    exact Kq_no hC hM hG
  have gX : am_up M 205 0 0 205 10 = nI s.t.x.T := (told_MI hM hG).tw.mx.fT
  rcases rng x3 0 9999 0 9999 rfl rfl (by omega) (by omega) with ⟨o, iv⟩ | ⟨o, iv, n, rfl, n1, n2⟩
  · have fin : ∃ v M1, some (Value.int 0) = some (Value.int v) ∧ hp nS M = hp nS M1 ∧ am_Wp (d + 12) 175 0 [.ref 205, .int 5, .int (nI i), .int x3] [] (hp nS M1) (Kq nS c Mi v) := by
      refine ⟨_, M, rfl, rfl, ?_⟩
      rw [b_175_0, b_176_0, if_pos (by decide), b_176_15, c_171, am_ans_some, b_176_22, ite0_f (by decide), b_176_61, c_171, am_ans_some, b_176_68, ite0_f (by decide), b_176_107, if_neg (fun z => z rfl), b_176_112, c_179, am_ans_some, b_176_117, ite0_t (by rw [gX]; exact hh), b_176_120, c_171, am_ans_some, b_176_129, ite0_f iv, b_176_136, b_176_137 rok0, am_ans_some, b_175_12, if_neg (fun z => z rfl), b_175_15]
      exact Kq_no hC hM hG
    by_cases z1 : x3 < 0
    · rw [b_128_0, if_pos (by decide), b_128_21, b_105_0, if_pos (by decide), b_105_33, if_pos (by decide), b_105_67, if_neg (fun z => z rfl), b_105_72, c_107, am_ans_some, b_105_77, ite0_t (by rw [g18T]; exact hh), b_105_80, if_pos z1, b_105_100, if_pos (by decide), b_105_123, am_ans_some, b_128_34, if_pos rfl, b_128_48 rok0]
      exact fin
    · by_cases z2 : 9999 < x3
      · rw [b_128_0, if_pos (by decide), b_128_21, b_105_0, if_pos (by decide), b_105_33, if_pos (by decide), b_105_67, if_neg (fun z => z rfl), b_105_72, c_107, am_ans_some, b_105_77, ite0_t (by rw [g18T]; exact hh), b_105_80, if_neg z1, b_105_84, if_pos z2, b_105_100, if_pos (by decide), b_105_123, am_ans_some, b_128_34, if_pos rfl, b_128_48 rok0]
        exact fin
      · exact absurd ⟨z1, z2⟩ iv
  rw [b_128_0, if_pos (by decide), b_128_21, b_105_0, if_pos (by decide), b_105_33, if_pos (by decide), b_105_67, if_neg (fun z => z rfl), b_105_72, c_107, am_ans_some, b_105_77, ite0_t (by rw [g18T]; exact hh), b_105_80, if_neg iv.1, b_105_84, if_neg iv.2, b_105_91 (by first | exact in_n (by omega) (by omega) | (simp only [li, nI_add, pk_mul]; exact in_n (by omega) (by omega))), cl_n (by omega), am_ans_some, b_128_34, if_neg (by decide), b_128_41, c_37, am_ans_none, b_128_48 rok1]
  refine ⟨_, _, rfl, rfl, ?_⟩
  refine p_W (nS := nS) (j := 36 + i) (v := nI n) hC hM hG (CW_pu hC.tw.w (by omega) (nI n)) (fun a k q => up_pt _ _ (by omega)) (WG_pu hGT.wg hG.t.G8 (by omega) n2) (Q := fun M1 => am_Wp (d + 12) 175 0 [.ref 205, .int 5, .int (nI i), .int (nI n)] [] (hp nS M1) (Kq nS c Mi 1)) (fun M1 h1 => ?_)
  have gX : am_up M1 205 0 0 205 10 = nI s.t.x.T := (told_MI h1 hG).tw.mx.fT
  show am_Wp (d + 12) 175 0 [.ref 205, .int 5, .int (nI i), .int (nI n)] [] (hp nS M1) (Kq nS c Mi 1) = _
  rw [b_175_0, b_176_0, if_pos (by decide), b_176_15, c_171, am_ans_some, b_176_22, ite0_f (by decide), b_176_61, c_171, am_ans_some, b_176_68, ite0_f (by decide), b_176_107, if_neg (fun z => z rfl), b_176_112, c_179, am_ans_some, b_176_117, ite0_t (by rw [gX]; exact hh), b_176_120, c_171, am_ans_some, b_176_129, ite0_t iv, b_176_132, b_176_137 rok1, am_ans_some, b_175_12, if_pos (by decide), b_175_17, if_pos (by decide), b_175_28, if_pos (by decide), b_175_42, if_pos (by decide), b_175_57, if_pos (by decide), b_175_69, if_pos (by decide), b_175_84, if_neg (fun z => z rfl), b_175_89 (by rw [adl]; exact in_n (by omega) (by omega)), adl, cl_n (by omega), b_175_99, if_pos (by decide), b_175_112]
theorem p_set6 {nS d c : Nat} {Mi M : am_M} {s : St} {x2 x3 : Int32} (hC : CI Mi M s) (hM : MI M s) (hG : GI c s) : prS nS (d + 12) c Mi 128 [.ref 16, .int 6, .int x2, .int x3, .retAddr 0] 175 [.ref 205, .int 6, .int x2, .int x3] M := by
  have hGT := GT_mono hG.t (show c ≤ c + 1 by omega)
  have hL6 := hG.t.L6
  have hG8 := hG.t.G8
  have hT10 := hG.t.T10
  have g18L : M 18 0 = nI s.t.x.L := hC.tw.w.fL
  have g18G : M 18 1 = nI s.t.x.G := hC.tw.w.fG
  have g18T : M 18 2 = nI s.t.x.T := hC.tw.w.fT
  unfold prS
  rcases rng x3 0 9 0 9 rfl rfl (by omega) (by omega) with ⟨o, iv⟩ | ⟨o, iv, n, rfl, n1, n2⟩
  · have fin : ∃ v M1, some (Value.int 0) = some (Value.int v) ∧ hp nS M = hp nS M1 ∧ am_Wp (d + 12) 175 0 [.ref 205, .int 6, .int x2, .int x3] [] (hp nS M1) (Kq nS c Mi v) := by
      refine ⟨_, M, rfl, rfl, ?_⟩
      rw [b_175_0, b_176_0, if_neg (fun z => z rfl), b_176_6, c_171, am_ans_some, b_176_14 rok_ite, am_ans_some, b_175_12, ite1_f iv, b_175_15]
      exact Kq_no hC hM hG
    by_cases z1 : x3 < 0
    · rw [b_128_0, if_pos (by decide), b_128_21, b_105_0, if_pos (by decide), b_105_33, if_pos (by decide), b_105_67, if_pos (by decide), b_105_100, if_neg (fun z => z rfl), b_105_106, if_pos z1, b_105_123, am_ans_some, b_128_34, if_pos rfl, b_128_48 rok0]
      exact fin
    · by_cases z2 : 9 < x3
      · rw [b_128_0, if_pos (by decide), b_128_21, b_105_0, if_pos (by decide), b_105_33, if_pos (by decide), b_105_67, if_pos (by decide), b_105_100, if_neg (fun z => z rfl), b_105_106, if_neg z1, b_105_110, if_pos z2, b_105_123, am_ans_some, b_128_34, if_pos rfl, b_128_48 rok0]
        exact fin
      · exact absurd ⟨z1, z2⟩ iv
  rw [b_128_0, if_pos (by decide), b_128_21, b_105_0, if_pos (by decide), b_105_33, if_pos (by decide), b_105_67, if_pos (by decide), b_105_100, if_neg (fun z => z rfl), b_105_106, if_neg iv.1, b_105_110, if_neg iv.2, b_105_116, am_ans_some, b_128_34, if_neg (by decide), b_128_41, c_37, am_ans_none, b_128_48 rok1]
  refine ⟨_, _, rfl, rfl, ?_⟩
  refine p_W (nS := nS) (j := 3) (v := nI n) hC hM hG (CW_wi hC.tw.w (nI n)) (fun a k q => up_pt _ _ (by omega)) (WG_oth hGT.wg (nI n) hG.t.G8 (Or.inr (Or.inl rfl))) (Q := fun M1 => am_Wp (d + 12) 175 0 [.ref 205, .int 6, .int x2, .int (nI n)] [] (hp nS M1) (Kq nS c Mi 1)) (fun M1 h1 => ?_)
  show am_Wp (d + 12) 175 0 [.ref 205, .int 6, .int x2, .int (nI n)] [] (hp nS M1) (Kq nS c Mi 1) = _
  rw [b_175_0, b_176_0, if_neg (fun z => z rfl), b_176_6, c_171, am_ans_some, b_176_14 rok_ite, am_ans_some, b_175_12, ite1_t iv, b_175_17, if_pos (by decide), b_175_28, if_pos (by decide), b_175_42, if_pos (by decide), b_175_57, if_pos (by decide), b_175_69, if_pos (by decide), b_175_84, if_pos (by decide), b_175_99, if_neg (fun z => z rfl), b_175_105, b_175_112]
theorem p_set {nS d c : Nat} {Mi M : am_M} {s : St} {x1 x2 x3 : Int32} (hC : CI Mi M s) (hM : MI M s) (hG : GI c s) : prS nS (d + 12) c Mi 128 [.ref 16, .int x1, .int x2, .int x3, .retAddr 0] 175 [.ref 205, .int x1, .int x2, .int x3] M := by
  by_cases e0 : x1 = 0
  · subst e0; exact p_set0 hC hM hG
  by_cases e1 : x1 = 1
  · subst e1; exact p_set1 hC hM hG
  by_cases e2 : x1 = 2
  · subst e2; exact p_set2 hC hM hG
  by_cases e3 : x1 = 3
  · subst e3; exact p_set3 hC hM hG
  by_cases e4 : x1 = 4
  · subst e4; exact p_set4 hC hM hG
  by_cases e5 : x1 = 5
  · subst e5; exact p_set5 hC hM hG
  by_cases e6 : x1 = 6
  · subst e6; exact p_set6 hC hM hG
  have i02 : ¬ (¬ x1 < 0 ∧ ¬ 2 < x1) := by
    intro z
    rcases rng x1 0 2 0 2 rfl rfl (by omega) (by omega) with ⟨_, q⟩ | ⟨_, _, n, rfl, n1, n2⟩
    · exact q z
    · have : n = 0 ∨ n = 1 ∨ n = 2 := by omega
      rcases this with rfl | rfl | rfl
      · exact e0 rfl
      · exact e1 rfl
      · exact e2 rfl
  have i34 : ¬ (¬ x1 < 3 ∧ ¬ 4 < x1) := by
    intro z
    rcases rng x1 3 4 3 4 rfl rfl (by omega) (by omega) with ⟨_, q⟩ | ⟨_, _, n, rfl, n1, n2⟩
    · exact q z
    · have : n = 3 ∨ n = 4 := by omega
      rcases this with rfl | rfl
      · exact e3 rfl
      · exact e4 rfl
  have fin : ∃ v M1, some (Value.int 0) = some (Value.int v) ∧ hp nS M = hp nS M1 ∧ am_Wp (d + 12) 175 0 [.ref 205, .int x1, .int x2, .int x3] [] (hp nS M1) (Kq nS c Mi v) := by
    refine ⟨_, M, rfl, rfl, ?_⟩
    rw [b_175_0, b_176_0, if_pos e6, b_176_15, c_171, am_ans_some, b_176_22, ite0_f i02, b_176_61, c_171, am_ans_some, b_176_68, ite0_f i34, b_176_107, if_pos e5, b_176_136, b_176_137 rok0, am_ans_some, b_175_12, if_neg (fun z => z rfl), b_175_15]
    exact Kq_no hC hM hG
  unfold prS
  rw [b_128_0]
  by_cases e7 : 2 < x1
  · rw [if_pos e7, b_128_21, b_105_0, if_pos e3, b_105_33, if_pos e4, b_105_67, if_pos e5, b_105_100, if_pos e6, b_105_123, am_ans_some, b_128_34, if_pos rfl, b_128_48 rok0]
    exact fin
  · rw [if_neg e7, b_128_5, b_103_0, c_104, am_ans_some, b_103_5]
    by_cases hh : ¬ x2 < 0 ∧ ¬ M 18 0 ≤ x2
    · rw [ite1_t hh, b_103_10, if_pos e0, b_103_33, if_pos e1, b_103_58, if_pos e2, b_103_82, am_ans_some, b_128_18, b_128_34, if_pos rfl, b_128_48 rok0]
      exact fin
    · rw [ite1_f hh, b_103_8, am_ans_some, b_128_18, b_128_34, if_pos rfl, b_128_48 rok0]
      exact fin
end
