section
/-! WHO IS THERE -/
theorem CW_W {w : Nat} {M : am_M} {x : Cx} {W W' : Rw} (h : CW w M x W) (e : ∀ k, k < 136 → W k = W' k) : CW w M x W' := ⟨h.fL, h.fG, h.fT, h.wi.trans (e _ (by omega)), h.da.trans (e _ (by omega)), h.dr.trans (e _ (by omega)), h.wr.trans (e _ (by omega)), h.vo, fun k hk => (h.he k hk).trans (e _ (by omega)), fun k hk => (h.tp k hk).trans (e _ (by omega)), fun k hk => (h.lo k hk).trans (e _ (by omega)), fun k hk => (h.sc k hk).trans (e _ (by omega)), h.ba, h.bb, fun k hk => (h.pr k hk).trans (e _ (by omega)), fun k hk => (h.pu k hk).trans (e _ (by omega)), fun k hk => (h.ru k hk).trans (e _ (by omega)), fun k hk => (h.st k hk).trans (e _ (by omega))⟩
theorem GT_X {c : Nat} {t : Tn} {x : Cx} {W : Rw} (h : GT c t) (hL : x.L ≤ 6) (hG : x.G ≤ 8) (hT : x.T ≤ 10) (hu : ∀ g, g < 8 → x.up g ≤ x.L) (h0 : ∀ g, g < 8 → x.G ≤ g → x.up g = 0) (hd : DnOk x t.dn) (ht : TrOk x t.tr) (hw : WG c x W) : GT c (tX t x W) := ⟨hL, hG, hT, hu, h0, h.ok, hd, ht, h.b16, h.p14, h.pr, h.w14, h.we, h.rt, h.r0, h.s8, h.sw, h.sv, hw⟩
theorem GT_W {c : Nat} {t : Tn} {W : Rw} (h : GT c t) (hw : WG c t.x W) : GT c (tX t t.x W) := GT_X h h.L6 h.G8 h.T10 h.up h.u0 h.dk h.tk hw
/-- a number of the world that nothing else leans on -/
theorem WG_oth {c : Nat} {x : Cx} {W : Rw} {j : Nat} (h : WG c x W) (v : Int32) (hG : x.G ≤ 8) (hj : j = 1 ∨ j = 3 ∨ (∃ i, i < x.L ∧ x.L ≤ 6 ∧ (j = 4 + i ∨ j = 22 + i))) : WG c x (upd W j v) := by
  have hj' : j ≠ 2 ∧ (j < 16 ∨ (22 ≤ j ∧ j < 28)) := by
    rcases hj with rfl | rfl | ⟨i, h1, h2, rfl | rfl⟩ <;> omega
  have hz : ∀ k, k < 6 → x.L ≤ k → j ≠ 4 + k ∧ j ≠ 10 + k ∧ j ≠ 16 + k ∧ j ≠ 22 + k := by
    intro k h1 h2
    rcases hj with rfl | rfl | ⟨i, h3, h4, rfl | rfl⟩ <;> omega
  have hj0 : j ≠ 0 := by rcases hj with rfl | rfl | ⟨i, h3, h4, rfl | rfl⟩ <;> omega
  refine ⟨WOk_oth h.ok v hj' hG, ⟨fun k h1 h2 => ?_, fun k h1 h2 => ?_, fun k h1 h2 => ?_, fun k h1 h2 => ?_, fun k h1 h2 => ?_, fun t g h1 h2 h3 => ?_⟩, ?_⟩
  · rw [upd_ne _ _ (hz k h1 h2).1.symm]; exact h.z.h k h1 h2
  · rw [upd_ne _ _ (hz k h1 h2).2.1.symm]; exact h.z.t k h1 h2
  · rw [upd_ne _ _ (hz k h1 h2).2.2.1.symm]; exact h.z.l k h1 h2
  · rw [upd_ne _ _ (hz k h1 h2).2.2.2.symm]; exact h.z.s k h1 h2
  · rw [upd_ne _ _ (by omega)]; exact h.z.r k h1 h2
  · rw [upd_ne _ _ (by omega)]; exact h.z.st t g h1 h2 h3
  · rw [upd_ne _ _ hj0.symm]; exact h.d
theorem bd_X {t : Tn} {x : Cx} {W : Rw} (h : bdT t) : bdT (tX t x W) := h
theorem eqM_5 (M : am_M) (v : Int32) : eqM M (am_up M 205 5 v) := ⟨up_pt _ _ (by omega), up_pt _ _ (by omega), up_pt _ _ (by omega), up_pt _ _ (by omega), up_pt _ _ (by omega), up_pt _ _ (by omega), up_pt _ _ (by omega), up_pt _ _ (by omega), up_pt _ _ (by omega), up_pt _ _ (by omega), fun k hk => up_pt _ _ (by omega), fun k hk => up_pt _ _ (by omega), fun k hk => up_pt _ _ (by omega), fun k hk => up_pt _ _ (by omega), fun k hk => up_pt _ _ (by omega), fun k hk => up_pt _ _ (by omega), fun k hk => up_pt _ _ (by omega), fun k hk => up_pt _ _ (by omega), fun k hk => up_pt _ _ (by omega), fun k hk => up_pt _ _ (by omega), fun k hk => up_pt _ _ (by omega), fun k hk => up_pt _ _ (by omega), fun k hk => up_pt _ _ (by omega), fun k hk => up_pt _ _ (by omega), fun k hk => up_pt _ _ (by omega), fun k hk => up_pt _ _ (by omega), fun k hk => up_pt _ _ (by omega), fun k hk => up_pt _ _ (by omega)⟩
theorem MTV_5 {M : am_M} {t : Tn} (h : MTV M t) (g : bdT t) (v : Int32) : MTV (am_up M 205 5 v) t := MTV_of h g (eqM_5 M v)
theorem p_state {nS d c : Nat} {Mi M : am_M} {s : St} {x1 : Int32} (hC : CI Mi M s) (hM : MI M s) (hG : GI c s) : prS nS (d + 12) c Mi 123 [.ref 16, .int x1, .retAddr 0] 169 [.ref 205, .int x1, .retAddr 0] M := by
  have hGT := GT_mono hG.t (show c ≤ c + 1 by omega)
  unfold prS
  rw [c_123]
  refine ⟨_, _, rfl, rfl, ?_⟩
  have g18 : M 18 5 = s.t.W 1 := hC.tw.w.dr
  have hC1 : CI Mi (am_up (am_up M 18 5 x1) 113 2 0) (sT0 s (tX s.t s.t.x (upd s.t.W 1 x1))) := CI_T0 hC (CT_X hC.tw (by omega) (CW_of (CW_dr hC.tw.w x1) (fun a h1 h2 => up_ne _ _ _ (by omega))) (fun a k h1 h2 h3 h4 => by rw [up_pt _ _ (by omega), up_pt _ _ (by omega)])) (by rw [up_same, upd_same]) (fun a k h1 h2 h3 h4 => by rw [up_pt _ _ (by omega), up_pt _ _ (by omega)])
  have hM1 : MI (am_up (am_up M 18 5 x1) 113 2 0) s := MI_fr hM hG (Fc_tr (Fc_up _ _ (by omega)) (Fc_up _ _ (by omega)))
  have hMT := told_MI hM1 hG
  rw [c_169, g18, hMT.tw.w 1 (by omega)]
  refine Kq_mk hC1 (MI_T0 hMT hG (MTV_5 (MT_X hMT.tw (GT_bd hG.t) (fun k hk => ?_) ⟨?_, ?_, ?_, fun k hk => ?_, fun k hk => ?_, fun k hk => ?_⟩ (fun a k h1 h2 h3 => ?_)) (bd_X (GT_bd hG.t)) 0) (by rw [up_same, upd_same]) (fun a k h1 h2 h3 h4 => by rw [up_pt _ _ (by omega), up_pt _ _ (by unfold rT at h3; omega)])) (Fm_tr (Fm_tr (Fm_up _ _ (by omega)) (Fm_up _ _ (by omega))) (Fm_up _ _ (by omega))) (GI_T0 hG (GT_W hGT (WG_oth hGT.wg x1 hG.t.G8 (Or.inl rfl))))
  · rw [up_same, upd_at, upd_at]
    by_cases ek : k = 1
    · rw [if_pos ek, if_pos ek]
    · rw [if_neg ek, if_neg ek]; exact hMT.tw.w k hk
  · rw [up_pt _ _ (by omega)]; exact hMT.tw.mx.fL
  · rw [up_pt _ _ (by omega)]; exact hMT.tw.mx.fG
  · rw [up_pt _ _ (by omega)]; exact hMT.tw.mx.fT
  · rw [up_pt _ _ (by omega)]; exact hMT.tw.mx.vo k hk
  · rw [up_pt _ _ (by omega)]; exact hMT.tw.mx.ba k hk
  · rw [up_pt _ _ (by omega)]; exact hMT.tw.mx.up k hk
  · rw [up_pt _ _ (by omega)]
/-! a lark more -/
def xL (x : Cx) (v : Int32) : Cx := (x.L + 1, x.G, x.T, upd x.voice x.L v, x.base, x.up)
def xG (x : Cx) (v : Int32) : Cx := (x.L, x.G + 1, x.T, x.voice, upd x.base x.G v, x.up)
def xT (x : Cx) : Cx := (x.L, x.G, x.T + 1, x.voice, x.base, x.up)
theorem CW_xL {w : Nat} {M : am_M} {x : Cx} {W : Rw} (h : CW w M x W) (hL : x.L < 6) (v : Int32) : CW w (am_up (am_up M (w + 1) x.L v) w 0 (nI (x.L + 1))) (xL x v) W := by
  have e : ∀ a k, ¬ (a = w ∧ k = 0) → a ≠ w + 1 → am_up (am_up M (w + 1) x.L v) w 0 (nI (x.L + 1)) a k = M a k := fun a k h1 h2 => by rw [up_pt _ _ h1, up_pt _ _ (by omega)]
  refine ⟨by rw [up_same, upd_same]; rfl, (e _ _ (by omega) (by omega)).trans h.fG, (e _ _ (by omega) (by omega)).trans h.fT, (e _ _ (by omega) (by omega)).trans h.wi, (e _ _ (by omega) (by omega)).trans h.da, (e _ _ (by omega) (by omega)).trans h.dr, (e _ _ (by omega) (by omega)).trans h.wr, fun k hk => ?_, fun k hk => (e _ _ (by omega) (by omega)).trans (h.he k hk), fun k hk => (e _ _ (by omega) (by omega)).trans (h.tp k hk), fun k hk => (e _ _ (by omega) (by omega)).trans (h.lo k hk), fun k hk => (e _ _ (by omega) (by omega)).trans (h.sc k hk), fun k hk => (e _ _ (by omega) (by omega)).trans (h.ba k hk), fun k hk => (e _ _ (by omega) (by omega)).trans (h.bb k hk), fun k hk => (e _ _ (by omega) (by omega)).trans (h.pr k hk), fun k hk => (e _ _ (by omega) (by omega)).trans (h.pu k hk), fun k hk => (e _ _ (by omega) (by omega)).trans (h.ru k hk), fun k hk => (e _ _ (by omega) (by omega)).trans (h.st k hk)⟩
  rw [up_ne _ _ _ (by omega), up_same]
  show upd (M (w + 1)) x.L v k = upd x.voice x.L v k
  rw [upd_at, upd_at]
  by_cases ek : k = x.L
  · rw [if_pos ek, if_pos ek]
  · rw [if_neg ek, if_neg ek]; exact h.vo k hk
theorem WOk_x {x x' : Cx} {P : Nat} {W : Rw} (h : WOk x P W) (hg : x'.G ≤ x.G) : WOk x' P W := ⟨h.lo, h.ru, fun k hk => h.pr k (by omega), h.st, h.pu, h.wr⟩
/-- zeros that stand already -/
def KZ (M0 M : am_M) (W : Rw) : Prop := (∀ k, k < 136 → M 206 k = W k) ∧ ∀ a, a ≠ 206 → M a = M0 a
theorem KZ_0 {M0 M : am_M} {W : Rw} (h : KZ M0 M W) {j : Nat} (hj : W j = 0) : KZ M0 (am_up M 206 j 0) W := by
  refine ⟨fun k hk => ?_, fun a ha => by rw [up_ne _ _ _ ha]; exact h.2 a ha⟩
  rw [up_same, upd_at]
  by_cases e : k = j
  · rw [if_pos e, e, hj]
  · rw [if_neg e]; exact h.1 k hk
theorem p_lark {nS d c : Nat} {Mi M : am_M} {s : St} {x1 : Int32} (hC : CI Mi M s) (hM : MI M s) (hG : GI c s) : prS nS (d + 12) c Mi 124 [.ref 16, .int x1, .retAddr 0, .retAddr 0] 170 [.ref 205, .int x1, .retAddr 0] M := by
  have hGT := GT_mono hG.t (show c ≤ c + 1 by omega)
  have hL := hG.t.L6
  have g18 : M 18 0 = nI s.t.x.L := hC.tw.w.fL
  unfold prS
  rw [c_124 (fun _ h => by rw [g18] at h ⊢; rw [li, lt_n (by omega) (by omega)] at h; exact in_n h (by omega))]
  rcases rng x1 0 9 0 9 rfl rfl (by omega) (by omega) with ⟨o1, i1⟩ | ⟨o1, i1, n, rfl, n1, n2⟩
  · rw [if_pos o1]
    refine ⟨_, M, rfl, rfl, ?_⟩
    rw [b_170_0, c_171, am_ans_some, b_170_13, ite0_f i1, b_170_25]
    exact Kq_no hC hM hG
  rw [if_neg o1]
  by_cases hf : s.t.x.L < 6
  · rw [if_pos (by rw [g18, li, lt_n (by omega) (by omega)]; exact hf), g18, cl_n (by omega), nI_1]
    refine ⟨_, _, rfl, rfl, ?_⟩
    have hC1 : CI Mi (am_up (am_up (am_up M 19 s.t.x.L (nI n)) 18 0 (nI (s.t.x.L + 1))) 113 2 0) (sT0 s (tX s.t (xL s.t.x (nI n)) s.t.W)) := CI_T0 hC (CT_X hC.tw (by omega) (CW_of (CW_xL hC.tw.w hf (nI n)) (fun a h1 h2 => up_ne _ _ _ (by omega))) (fun a k h1 h2 h3 h4 => by rw [up_pt _ _ (by omega), up_pt _ _ (by omega), up_pt _ _ (by omega)])) (by rw [up_same, upd_same]) (fun a k h1 h2 h3 h4 => by rw [up_pt _ _ (by omega), up_pt _ _ (by omega), up_pt _ _ (by omega)])
    have hM1 : MI (am_up (am_up (am_up M 19 s.t.x.L (nI n)) 18 0 (nI (s.t.x.L + 1))) 113 2 0) s := MI_fr hM hG (Fc_tr (Fc_tr (Fc_up _ _ (by omega)) (Fc_up _ _ (by omega))) (Fc_up _ _ (by omega)))
    have hMT := told_MI hM1 hG
    generalize am_up (am_up (am_up M 19 s.t.x.L (nI n)) 18 0 (nI (s.t.x.L + 1))) 113 2 0 = M1 at *
    have gm := hMT.tw.mx.fL
    have hF : Fm M1 (am_up M1 205 0 0) := Fm_up _ _ (by omega)
    rw [b_170_0, c_171, am_ans_some, b_170_13, ite0_t i1]
    generalize am_up M1 205 0 0 = M2 at *
    have k0 : KZ (am_up M2 209 s.t.x.L (nI n)) (am_up M2 209 s.t.x.L (nI n)) s.t.W := ⟨fun k hk => by rw [up_ne _ _ _ (by decide)]; exact hMT.tw.w k hk, fun _ _ => rfl⟩
    have gk : ∀ {M' : am_M}, KZ (am_up M2 209 s.t.x.L (nI n)) M' s.t.W → M' 205 8 = nI s.t.x.L := fun h => by rw [h.2 205 (by decide), up_ne _ _ _ (by decide)]; exact gm
    have wz := hG.t.wg.z
    rw [b_170_16, if_pos (by rw [gm, li, eq_n (by omega) (by omega)]; omega), b_170_27 (by rw [gm]; exact in_n hf (by omega)), gm, cl_n (by omega)]
    have step : ∀ (j : Nat) (M' : am_M), KZ (am_up M2 209 s.t.x.L (nI n)) M' s.t.W → j + 6 ≤ 28 → s.t.W (j + s.t.x.L) = 0 → (∀ M'', KZ (am_up M2 209 s.t.x.L (nI n)) M'' s.t.W → am_Wp (d + 11 + 1) 170 39 [.ref 205, .int (nI n), .int (nI (j + 6))] [] (hp nS M'') (Kq nS c Mi (nI s.t.x.L))) → am_Wp (d + 11 + 1) 170 39 [.ref 205, .int (nI n), .int (nI j)] [] (hp nS M') (Kq nS c Mi (nI s.t.x.L)) := by
      intro j M' h hj hz hn
      rw [b_170_39, if_neg (by rw [li, le_n (by omega) (by omega)]; omega), b_170_45 (by rw [gk h, nI_add]; exact in_n (by omega) (by omega)), gk h, nI_add, cl_n (by omega), show nI j + 6 = nI (j + 6) from nI_add j 6]
      exact hn _ (KZ_0 h hz)
    refine step 4 _ k0 (by omega) (wz.h _ hf (Nat.le_refl _)) (fun M3 h3 => step 10 _ h3 (by omega) (wz.t _ hf (Nat.le_refl _)) (fun M4 h4 => step 16 _ h4 (by omega) (wz.l _ hf (Nat.le_refl _)) (fun M5 h5 => step 22 _ h5 (by omega) (wz.s _ hf (Nat.le_refl _)) (fun M6 h6 => ?_))))
    rw [b_170_39, if_pos (by decide), b_170_65, gk h6, nI_1, up_pt _ _ (by omega), up_same, upd_same, sub1 (by omega)]
    have hx : ∀ a k, a ≠ 206 → ¬ (a = 205 ∧ k = 8) → a ≠ 209 → am_up M6 205 8 (nI (s.t.x.L + 1)) a k = M2 a k := fun a k q1 q2 q3 => by rw [up_pt _ _ q2, h6.2 a q1, up_pt _ _ (by omega)]
    refine Kq_mk hC1 (MI_T0 hMT hG (MTV_5 (MT_X (t := s.t) (x' := xL s.t.x (nI n)) (W' := s.t.W) hMT.tw (GT_bd hG.t) (fun k hk => ?_) ⟨?_, ?_, ?_, fun k hk => ?_, fun k hk => ?_, fun k hk => ?_⟩ (fun a k h1 h2 h3 => hx a k (by omega) (by omega) (by omega))) (bd_X (GT_bd hG.t)) 0) (by rw [up_same, upd_same]) (fun a k h1 h2 h3 h4 => by rw [up_pt _ _ (by omega)]; exact hx a k (by unfold rT at h3; omega) (by unfold rT at h3; omega) (by unfold rT at h3; omega))) (Fm_tr hF (fun a ha => funext fun k => by rw [up_pt _ _ (by omega)]; exact hx a k (by omega) (by omega) (by omega))) (GI_T0 hG (GT_X hGT (by show s.t.x.L + 1 ≤ 6; omega) hG.t.G8 hG.t.T10 (fun g hg => by show s.t.x.up g ≤ s.t.x.L + 1; have := hG.t.up g hg; omega) hG.t.u0 ⟨hG.t.dk.n16, hG.t.dk.kd, fun j hj h3 => by show _ < s.t.x.L + 1; have := hG.t.dk.wo j hj h3; omega, hG.t.dk.w9, hG.t.dk.mn, hG.t.dk.da⟩ hG.t.tk ⟨WOk_x hGT.wg.ok (Nat.le_refl _), ⟨fun k q1 q2 => wz.h k q1 (by have : s.t.x.L + 1 ≤ k := q2; omega), fun k q1 q2 => wz.t k q1 (by have : s.t.x.L + 1 ≤ k := q2; omega), fun k q1 q2 => wz.l k q1 (by have : s.t.x.L + 1 ≤ k := q2; omega), fun k q1 q2 => wz.s k q1 (by have : s.t.x.L + 1 ≤ k := q2; omega), wz.r, wz.st⟩, hGT.wg.d⟩))
    · rw [up_ne _ _ _ (by decide)]; exact h6.1 k hk
    · rw [up_same, upd_same]; rfl
    · rw [hx _ _ (by omega) (by omega) (by omega)]; exact hMT.tw.mx.fG
    · rw [hx _ _ (by omega) (by omega) (by omega)]; exact hMT.tw.mx.fT
    · rw [up_ne _ _ _ (by decide), h6.2 _ (by decide), up_same]
      show upd (M2 209) s.t.x.L (nI n) k = upd s.t.x.voice s.t.x.L (nI n) k
      rw [upd_at, upd_at]
      by_cases ek : k = s.t.x.L
      · rw [if_pos ek, if_pos ek]
      · rw [if_neg ek, if_neg ek]; exact hMT.tw.mx.vo k hk
    · rw [hx _ _ (by omega) (by omega) (by omega)]; exact hMT.tw.mx.ba k hk
    · rw [hx _ _ (by omega) (by omega) (by omega)]; exact hMT.tw.mx.up k hk
  · rw [if_neg (by rw [g18, li, lt_n (by omega) (by omega)]; exact hf)]
    refine ⟨_, M, rfl, rfl, ?_⟩
    rw [b_170_0, c_171, am_ans_some, b_170_13, ite0_t i1, b_170_16, if_neg (fun z => z (by rw [(told_MI hM hG).tw.mx.fL, show s.t.x.L = 6 by omega]; rfl)), b_170_25]
    exact Kq_no hC hM hG
end
