section
/-! BY HAND -/
theorem WG_tr {c : Nat} {x : Cx} {W B : Rw} {t g n : Nat} (h : WG c x W) (hc : c ≤ 1000) (hL : x.L ≤ 6) (hG : x.G ≤ 8) (hT : x.T ≤ 10) (ht : t < x.T) (hg : g < x.G) (hn : n ≤ 99) (bu : Bool) : WG (c + 1) x (trP false t g bu n (W, B)).1 := by
  refine ⟨WOk_mono (trP_ok h.ok (by omega) (by omega) hg hG hn false bu) (by omega), ZB_dd h.z hL hG hT (fun q hq => dd_trP hq ht hg hT _ _ _ _), ?_⟩
  obtain ⟨D, h1, h2⟩ := h.d
  exact ⟨D, (trP_0 _ _ _ _ _ _).trans h1, h2⟩
theorem act_m {nS d c : Nat} {Mi M2 : am_M} {s : St} {x1 x2 x3 : Int32} {W' B' : Rw} (hM2 : MI M2 s) (hG : GI c s) (eW : s.t.W = M2 206) (eB : s.t.B = M2 211) (hC2 : CI Mi M2 (sT (sK s) (tW s.t W' B'))) (hw : WG (c + 1) s.t.x W') (hcan : ∀ (N : am_M) (Q' : Option Value → am_H → Prop), MI N s → am_Wp (d + 11) 219 0 [.ref 205, .int x1, .int x2, .int x3] [] (hp nS N) Q' = Q' (some (.int 1)) (hp nS N)) (hdo : ∀ (N : am_M) (Q' : Option Value → am_H → Prop), MI N (sK s) → KM N N s.t.W s.t.B → (∀ N2, KM N N2 W' B' → Q' (some (.int 1)) (hp nS N2)) → am_Wp (d + 12) 218 21 [.ref 205, .int x1, .int x2, .int x3] [] (hp nS N) Q') : am_Wp (d + 12) 218 0 [.ref 205, .int x1, .int x2, .int x3] [] (hp nS M2) (Kq nS c Mi 1) := by
  have hMT := told_MI hM2 hG
  rw [b_218_0, hcan _ _ hMT, am_ans_some, b_218_12, if_pos bn1, b_218_17]
  refine m_keep hMT hG (fun N hN hF g1 g2 => ?_)
  rw [am_ans_none]
  refine hdo N _ hN (KM_of (s := sK s) ?_ ?_) (fun N2 h2 => ?_)
  · show s.t.W = N 206
    rw [g1, up_ne _ _ _ (by decide)]; exact eW
  · show s.t.B = N 211
    rw [g2, up_ne _ _ _ (by decide)]; exact eB
  · have hk := GI_K hG
    exact Kq_mk hC2 (MI_KM hN hk h2) (Fm_tr (Fm_tr (Fm_up _ _ (by omega)) hF) (Fm_KM h2)) ⟨GT_tW (GT_mono hG.t (by omega)) hw, hk.n6, hk.q6, fun i hi => WG_mono (hk.pw i hi) (by omega), hk.l4, hk.tp, fun h => GT_mono (hk.kt h) (by omega)⟩
/-- the model says no -/
theorem act_no {nS d c : Nat} {Mi M : am_M} {s : St} {x1 x2 x3 : Int32} (hC : CI Mi M s) (hM : MI M s) (hG : GI c s) (hcan : ∀ (N : am_M) (Q' : Option Value → am_H → Prop), MI N s → am_Wp (d + 11) 219 0 [.ref 205, .int x1, .int x2, .int x3] [] (hp nS N) Q' = Q' (some (.int 0)) (hp nS N)) : am_Wp (d + 12) 218 0 [.ref 205, .int x1, .int x2, .int x3] [] (hp nS M) (Kq nS c Mi 0) := by
  rw [b_218_0, hcan _ _ (told_MI hM hG), am_ans_some, b_218_12, if_neg (fun z => z rfl), b_218_15]
  exact Kq_no hC hM hG
theorem p_act0 {nS d c : Nat} {Mi M : am_M} {s : St} {x2 x3 : Int32} (hC : CI Mi M s) (hM : MI M s) (hG : GI c s) (hc : c ≤ 1000) : prS nS (d + 12) c Mi 129 [.ref 16, .int 0, .int x2, .int x3, .retAddr 0] 218 [.ref 205, .int 0, .int x2, .int x3] M := by
  obtain ⟨s, hC, hM, hG, eW, eB⟩ := nrm hC hM hG
  have hL6 := hG.t.L6
  have hG8 := hG.t.G8
  have hT10 := hG.t.T10
  have q2 : M 18 2 = nI s.t.x.T := hC.tw.w.fT
  have q1 : M 18 1 = nI s.t.x.G := hC.tw.w.fG
  have inT : ∀ {N : am_M} {j : Nat} {x : Int32}, N 18 2 = nI s.t.x.T → (¬ x < 0 ∧ ¬ N 18 2 ≤ x) → vp_in x 10 := by
    intro N j x hN hx
    rcases rngH x s.t.x.T (nI s.t.x.T) rfl (by omega) with z | ⟨_, i, rfl, hi⟩
    · exact absurd (by rw [hN] at hx; exact hx) z
    · exact in_n (by omega) (by omega)
  have mT : ∀ {N : am_M}, MI N s → (¬ x2 < 0 ∧ ¬ N 205 10 ≤ x2) → ∃ i, x2 = nI i ∧ i < s.t.x.T := by
    intro N hN hx
    rcases rngH x2 s.t.x.T (nI s.t.x.T) rfl (by omega) with z | ⟨_, i, e, hi⟩
    · exact absurd (by rw [hN.tw.mx.fT] at hx; exact hx) z
    · exact ⟨i, e, hi⟩
  have mG : ∀ {N : am_M}, MI N s → (¬ x3 < 0 ∧ ¬ N 205 9 ≤ x3) → ∃ i, x3 = nI i ∧ i < s.t.x.G := by
    intro N hN hx
    rcases rngH x3 s.t.x.G (nI s.t.x.G) rfl (by omega) with z | ⟨_, i, e, hi⟩
    · exact absurd (by rw [hN.tw.mx.fG] at hx; exact hx) z
    · exact ⟨i, e, hi⟩
  have can : ∀ (N : am_M) (Q' : Option Value → am_H → Prop), MI N s → am_Wp (d + 11) 219 0 [.ref 205, .int 0, .int x2, .int x3] [] (hp nS N) Q' = Q' (some (.int (if (¬ (x2 < 0) ∧ (¬ ((N 205 10) ≤ x2))) ∧ ((¬ (x3 < 0) ∧ (¬ ((N 205 9) ≤ x3))) ∧ (¬ (¬ (¬ (N 206 (46 + x2).toNatClampNeg) = 1)) ∧ (((¬ (0 : Int32) = 0) ∧ (¬ ((N 206 ((56 + (8 * x2)) + x3).toNatClampNeg) ≤ 0))) ∨ (¬ (¬ (0 : Int32) = 0) ∧ (¬ ((N 206 (36 + x2).toNatClampNeg) < (N 206 (28 + x3).toNatClampNeg)) ∧ (¬ (99 ≤ (N 206 ((56 + (8 * x2)) + x3).toNatClampNeg)))))))) then 1 else 0))) (hp nS N) := by
    intro N Q' hN
    have w46 : (¬ (x2 < 0) ∧ (¬ ((N 205 10) ≤ x2))) → vp_in (46 + x2) 136 := fun h => by obtain ⟨i, rfl, hi⟩ := mT hN h; rw [adl]; exact in_n (by omega) (by omega)
    have w36 : (¬ (x2 < 0) ∧ (¬ ((N 205 10) ≤ x2))) → vp_in (36 + x2) 136 := fun h => by obtain ⟨i, rfl, hi⟩ := mT hN h; rw [adl]; exact in_n (by omega) (by omega)
    have w28 : (¬ (x3 < 0) ∧ (¬ ((N 205 9) ≤ x3))) → vp_in (28 + x3) 136 := fun h => by obtain ⟨i, rfl, hi⟩ := mG hN h; rw [adl]; exact in_n (by omega) (by omega)
    have w56 : (¬ (x2 < 0) ∧ (¬ ((N 205 10) ≤ x2))) → (¬ (x3 < 0) ∧ (¬ ((N 205 9) ≤ x3))) → vp_in ((56 + (8 * x2)) + x3) 136 := fun h h' => by
      obtain ⟨i, rfl, hi⟩ := mT hN h
      obtain ⟨j, rfl, hj⟩ := mG hN h'
      rw [st_at]; exact in_n (by omega) (by omega)
    rw [b_219_0, if_pos rfl, b_219_9, c_220 (fun h _ => w46 h) (fun h h' _ _ => w56 h h') (fun h _ _ _ => w36 h) (fun _ h _ _ => w28 h) (fun h h' _ _ _ => w56 h h'), am_ans_some]
    by_cases cc : (¬ (x2 < 0) ∧ (¬ ((N 205 10) ≤ x2))) ∧ ((¬ (x3 < 0) ∧ (¬ ((N 205 9) ≤ x3))) ∧ (¬ (¬ (¬ (N 206 (46 + x2).toNatClampNeg) = 1)) ∧ (((¬ (0 : Int32) = 0) ∧ (¬ ((N 206 ((56 + (8 * x2)) + x3).toNatClampNeg) ≤ 0))) ∨ (¬ (¬ (0 : Int32) = 0) ∧ (¬ ((N 206 (36 + x2).toNatClampNeg) < (N 206 (28 + x3).toNatClampNeg)) ∧ (¬ (99 ≤ (N 206 ((56 + (8 * x2)) + x3).toNatClampNeg))))))))
    · rw [if_pos cc, b_219_16 rok1]
    · rw [if_neg cc, b_219_16 rok0]
  unfold prS
  rw [b_129_0, b_130_0, if_neg (fun z => z rfl), b_130_13, c_108 (fun h _ => inT (j := 0) q2 h), am_ans_some, b_130_20]
  have no : (∀ (N : am_M) (Q' : Option Value → am_H → Prop), MI N s → am_Wp (d + 11) 219 0 [.ref 205, .int 0, .int x2, .int x3] [] (hp nS N) Q' = Q' (some (.int 0)) (hp nS N)) → am_Wp (d + 10 + 1) 130 38 [.ref 16, .int 0, .int x2, .int x3, .ref 18] [] (hp nS M) (fun v h1 => am_Wp (d + 11 + 1) 129 7 [.ref 16, .int 0, .int x2, .int x3, .retAddr 0] (am_ans v []) h1 (fun o h => ∃ v M1, o = some (.int v) ∧ h = hp nS M1 ∧ am_Wp (d + 12) 218 0 [.ref 205, .int 0, .int x2, .int x3] [] (hp nS M1) (Kq nS c Mi v))) := by
    intro hno
    rw [b_130_38, b_130_39 rok0, am_ans_some, b_129_7, if_neg (fun z => z rfl), b_129_10]
    exact ⟨_, M, rfl, rfl, act_no hC hM hG hno⟩
  rcases rngH x2 s.t.x.T (nI s.t.x.T) rfl (by omega) with hn | ⟨hh, t, rfl, ht⟩
  · rw [ite0_f (fun z => hn (by rw [q2] at z; exact z.1))]
    exact no (fun N Q' hN => by rw [can N Q' hN, if_neg (fun z => hn (by rw [hN.tw.mx.fT] at z; exact z.1))])
  rcases rngH x3 s.t.x.G (nI s.t.x.G) rfl (by omega) with hn | ⟨hh3, g, rfl, hg⟩
  · rw [ite0_f (fun z => hn (by rw [q1] at z; exact z.2.1))]
    exact no (fun N Q' hN => by rw [can N Q' hN, if_neg (fun z => hn (by rw [hN.tw.mx.fG] at z; exact z.2.1))])
  have e46 : ((46 : Int32) + nI t).toNatClampNeg = 46 + t := by rw [adl]; exact cl_n (by omega)
  have e36 : ((36 : Int32) + nI t).toNatClampNeg = 36 + t := by rw [adl]; exact cl_n (by omega)
  have e28 : ((28 : Int32) + nI g).toNatClampNeg = 28 + g := by rw [adl]; exact cl_n (by omega)
  have e56 : ((56 : Int32) + 8 * nI t + nI g).toNatClampNeg = 56 + (8 * t + g) := by rw [st_at]; exact cl_n (by omega)
  have g28 : M 28 t = s.t.W (46 + t) := hC.tw.w.ru t (by omega)
  have g27 : M 27 t = s.t.W (36 + t) := hC.tw.w.pu t (by omega)
  have g26 : M 26 g = s.t.W (28 + g) := hC.tw.w.pr g (by omega)
  have g29 : M 29 (8 * t + g) = s.t.W (56 + (8 * t + g)) := hC.tw.w.st _ (by omega)
  obtain ⟨r, hr, r1, r9⟩ := hG.t.wg.ok.pr g hg
  obtain ⟨p, hp', hpP⟩ := hG.t.wg.ok.pu t (by omega)
  obtain ⟨q, hq, hq9⟩ := hG.t.wg.ok.st (8 * t + g) (by omega)
  rw [cl_n (show t < 2147483648 by omega), g28]
  rcases hG.t.wg.ok.ru t (by omega) with h0 | h0
  · rw [ite0_t ⟨by rw [q2]; exact hh, by rw [q1]; exact hh3, fun z => z h0⟩, b_130_23]
    have a1 : nI p / nI r = nI (p / r) := pk_div (by omega) (by omega) (by omega)
    have a2 : (99 : Int32) - nI q = nI (99 - q) := sub_n (a := 99) (by omega)
    have hpr : p / r ≤ p := Nat.div_le_self p r
    rw [c_109 (by first | exact in_n (by omega) (by omega) | (simp only [li, nI_add, pk_mul]; exact in_n (by omega) (by omega))) (fun _ => by rw [mul8]; exact in_n (by omega) (by omega)) (fun _ => (by first | exact in_n (by omega) (by omega) | (simp only [li, nI_add, pk_mul]; exact in_n (by omega) (by omega)))) (fun _ => (by first | exact in_n (by omega) (by omega) | (simp only [li, nI_add, pk_mul]; exact in_n (by omega) (by omega)))) (fun _ => by rw [cl_n (by omega), g26, hr]; exact nI_ne0 (by omega) (by omega)) (fun _ => by rw [mul8]; exact in_n (by omega) (by omega)), mul8, cl_n (show t < 2147483648 by omega), cl_n (show g < 2147483648 by omega), cl_n (by omega), g26, g27, g29, hr, hp', hq, if_neg (by rw [li, le_n (by omega) (by omega)]; omega), a1, a2, am_ans_some, b_130_30]
    have val : ((if nI (99 - q) < nI (p / r) then nI (99 - q) else nI (p / r)) < 1) = ¬ (r ≤ p ∧ q < 99) := by
      by_cases c1 : 99 - q < p / r
      · rw [if_pos (by rw [lt_n (by omega) (by omega)]; exact c1), li, lt_n (by omega) (by omega)]
        have : r ≤ p := by
          rcases Nat.lt_or_ge p r with z | z
          · rw [Nat.div_eq_of_lt z] at c1; omega
          · exact z
        exact propext ⟨fun z => by omega, fun z => by omega⟩
      · rw [if_neg (by rw [lt_n (by omega) (by omega)]; exact c1), li, lt_n (by omega) (by omega)]
        rcases Nat.lt_or_ge p r with z | z
        · rw [Nat.div_eq_of_lt z]
          exact propext ⟨fun _ => by omega, fun _ => by omega⟩
        · have := Nat.div_pos z (show 0 < r by omega)
          exact propext ⟨fun z => by omega, fun z => by omega⟩
    have mod : ∀ N : am_M, MI N s → ((¬ (nI t < 0) ∧ (¬ ((N 205 10) ≤ nI t))) ∧ ((¬ (nI g < 0) ∧ (¬ ((N 205 9) ≤ nI g))) ∧ (¬ (¬ (¬ (N 206 (46 + nI t).toNatClampNeg) = 1)) ∧ (((¬ (0 : Int32) = 0) ∧ (¬ ((N 206 ((56 + (8 * nI t)) + nI g).toNatClampNeg) ≤ 0))) ∨ (¬ (¬ (0 : Int32) = 0) ∧ (¬ ((N 206 (36 + nI t).toNatClampNeg) < (N 206 (28 + nI g).toNatClampNeg)) ∧ (¬ (99 ≤ (N 206 ((56 + (8 * nI t)) + nI g).toNatClampNeg))))))))) = (r ≤ p ∧ q < 99) := by
      intro N hN
      rw [e46, e36, e28, e56, hN.tw.w _ (by omega), hN.tw.w _ (by omega), hN.tw.w _ (by omega), hN.tw.w _ (by omega), hr, hp', hq, hN.tw.mx.fT, hN.tw.mx.fG, lt_n (a := p) (by omega) (by omega), show ((99 : Int32) ≤ nI q) = (99 ≤ q) from le_n (a := 99) (by omega) (by omega)]
      exact propext ⟨fun z => z.2.2.2.elim (fun z => absurd rfl z.1) (fun z => by omega), fun z => ⟨hh, hh3, fun z => z (by rw [h0]; decide), Or.inr ⟨fun z => z rfl, by omega, by omega⟩⟩⟩
    by_cases hok : r ≤ p ∧ q < 99
    · rw [if_neg (by rw [val]; exact fun z => z hok), b_130_34, b_130_39 rok1, am_ans_some, b_129_7, if_pos bn1, b_129_12]
      refine x_keep hC hG (fun M1 h1 f1 => ?_)
      rw [am_ans_none, b_129_30, if_neg (fun z => z rfl), b_129_34]
      refine x_buys (n := 1) (P := 9999 + 1582416 * c) (KC_of (s := sK s) h1) hG.t.wg.ok (by omega) hG8 (by omega) hg (by omega) (fun M2 h2 => ?_)
      rw [am_ans_none, b_129_47, b_129_96]
      have hF2 := Fc_tr f1 (Fc_KC h2 (Or.inl rfl))
      refine ⟨_, M2, rfl, rfl, act_m (MI_fr hM hG hF2) hG (by rw [hF2 206 (by omega)]; exact eW) (by rw [hF2 211 (by omega)]; exact eB) (CI_KC h1 h2) (WG_tr hG.t.wg hc hL6 hG8 hT10 ht hg (by omega) true) (fun N Q' hN => by rw [can N Q' hN, if_pos (by rw [mod N hN]; exact hok)]) (fun N Q' hN hK hq => ?_)⟩
      rw [b_218_21, if_neg (by decide), b_218_26, if_neg (fun z => z rfl), b_218_33, b_218_38]
      refine m_trade (n := 1) (P := 9999 + 1582416 * c) hK (Stm_of (s := sK s) hN (GI_K hG)) hG.t.wg.ok (by omega) (by omega) hg true (by omega) (by omega) (fun N2 h3 => ?_)
      rw [am_ans_none, b_218_41, if_pos (by decide), b_218_66, if_pos (by decide), b_218_76]
      exact hq N2 h3
    · rw [if_pos (by rw [val]; exact hok)]
      exact no (fun N Q' hN => by rw [can N Q' hN, if_neg (by rw [mod N hN]; exact hok)])
  · rw [ite0_f (fun z => z.2.2 (by rw [h0]; decide))]
    exact no (fun N Q' hN => by rw [can N Q' hN, if_neg (fun z => z.2.2.1 (fun z => z (by rw [e46, hN.tw.w _ (by omega)]; exact h0)))])
theorem p_act1 {nS d c : Nat} {Mi M : am_M} {s : St} {x2 x3 : Int32} (hC : CI Mi M s) (hM : MI M s) (hG : GI c s) (hc : c ≤ 1000) : prS nS (d + 12) c Mi 129 [.ref 16, .int 1, .int x2, .int x3, .retAddr 0] 218 [.ref 205, .int 1, .int x2, .int x3] M := by
  obtain ⟨s, hC, hM, hG, eW, eB⟩ := nrm hC hM hG
  have hL6 := hG.t.L6
  have hG8 := hG.t.G8
  have hT10 := hG.t.T10
  have q2 : M 18 2 = nI s.t.x.T := hC.tw.w.fT
  have q1 : M 18 1 = nI s.t.x.G := hC.tw.w.fG
  have inT : ∀ {N : am_M} {j : Nat} {x : Int32}, N 18 2 = nI s.t.x.T → (¬ x < 0 ∧ ¬ N 18 2 ≤ x) → vp_in x 10 := by
    intro N j x hN hx
    rcases rngH x s.t.x.T (nI s.t.x.T) rfl (by omega) with z | ⟨_, i, rfl, hi⟩
    · exact absurd (by rw [hN] at hx; exact hx) z
    · exact in_n (by omega) (by omega)
  have mT : ∀ {N : am_M}, MI N s → (¬ x2 < 0 ∧ ¬ N 205 10 ≤ x2) → ∃ i, x2 = nI i ∧ i < s.t.x.T := by
    intro N hN hx
    rcases rngH x2 s.t.x.T (nI s.t.x.T) rfl (by omega) with z | ⟨_, i, e, hi⟩
    · exact absurd (by rw [hN.tw.mx.fT] at hx; exact hx) z
    · exact ⟨i, e, hi⟩
  have mG : ∀ {N : am_M}, MI N s → (¬ x3 < 0 ∧ ¬ N 205 9 ≤ x3) → ∃ i, x3 = nI i ∧ i < s.t.x.G := by
    intro N hN hx
    rcases rngH x3 s.t.x.G (nI s.t.x.G) rfl (by omega) with z | ⟨_, i, e, hi⟩
    · exact absurd (by rw [hN.tw.mx.fG] at hx; exact hx) z
    · exact ⟨i, e, hi⟩
  have can : ∀ (N : am_M) (Q' : Option Value → am_H → Prop), MI N s → am_Wp (d + 11) 219 0 [.ref 205, .int 1, .int x2, .int x3] [] (hp nS N) Q' = Q' (some (.int (if (¬ (x2 < 0) ∧ (¬ ((N 205 10) ≤ x2))) ∧ ((¬ (x3 < 0) ∧ (¬ ((N 205 9) ≤ x3))) ∧ (¬ (¬ (¬ (N 206 (46 + x2).toNatClampNeg) = 1)) ∧ (((¬ (1 : Int32) = 0) ∧ (¬ ((N 206 ((56 + (8 * x2)) + x3).toNatClampNeg) ≤ 0))) ∨ (¬ (¬ (1 : Int32) = 0) ∧ (¬ ((N 206 (36 + x2).toNatClampNeg) < (N 206 (28 + x3).toNatClampNeg)) ∧ (¬ (99 ≤ (N 206 ((56 + (8 * x2)) + x3).toNatClampNeg)))))))) then 1 else 0))) (hp nS N) := by
    intro N Q' hN
    have w46 : (¬ (x2 < 0) ∧ (¬ ((N 205 10) ≤ x2))) → vp_in (46 + x2) 136 := fun h => by obtain ⟨i, rfl, hi⟩ := mT hN h; rw [adl]; exact in_n (by omega) (by omega)
    have w36 : (¬ (x2 < 0) ∧ (¬ ((N 205 10) ≤ x2))) → vp_in (36 + x2) 136 := fun h => by obtain ⟨i, rfl, hi⟩ := mT hN h; rw [adl]; exact in_n (by omega) (by omega)
    have w28 : (¬ (x3 < 0) ∧ (¬ ((N 205 9) ≤ x3))) → vp_in (28 + x3) 136 := fun h => by obtain ⟨i, rfl, hi⟩ := mG hN h; rw [adl]; exact in_n (by omega) (by omega)
    have w56 : (¬ (x2 < 0) ∧ (¬ ((N 205 10) ≤ x2))) → (¬ (x3 < 0) ∧ (¬ ((N 205 9) ≤ x3))) → vp_in ((56 + (8 * x2)) + x3) 136 := fun h h' => by
      obtain ⟨i, rfl, hi⟩ := mT hN h
      obtain ⟨j, rfl, hj⟩ := mG hN h'
      rw [st_at]; exact in_n (by omega) (by omega)
    rw [b_219_0, if_neg (by decide), b_219_4, if_neg (fun z => z rfl), b_219_9, c_220 (fun h _ => w46 h) (fun h h' _ _ => w56 h h') (fun h _ _ _ => w36 h) (fun _ h _ _ => w28 h) (fun h h' _ _ _ => w56 h h'), am_ans_some]
    by_cases cc : (¬ (x2 < 0) ∧ (¬ ((N 205 10) ≤ x2))) ∧ ((¬ (x3 < 0) ∧ (¬ ((N 205 9) ≤ x3))) ∧ (¬ (¬ (¬ (N 206 (46 + x2).toNatClampNeg) = 1)) ∧ (((¬ (1 : Int32) = 0) ∧ (¬ ((N 206 ((56 + (8 * x2)) + x3).toNatClampNeg) ≤ 0))) ∨ (¬ (¬ (1 : Int32) = 0) ∧ (¬ ((N 206 (36 + x2).toNatClampNeg) < (N 206 (28 + x3).toNatClampNeg)) ∧ (¬ (99 ≤ (N 206 ((56 + (8 * x2)) + x3).toNatClampNeg))))))))
    · rw [if_pos cc, b_219_16 rok1]
    · rw [if_neg cc, b_219_16 rok0]
  unfold prS
  rw [b_129_0, b_130_0, if_pos (by decide), b_130_40, if_neg (fun z => z rfl), b_130_45, c_108 (fun h _ => inT (j := 0) q2 h), am_ans_some, b_130_52]
  have no : (∀ (N : am_M) (Q' : Option Value → am_H → Prop), MI N s → am_Wp (d + 11) 219 0 [.ref 205, .int 1, .int x2, .int x3] [] (hp nS N) Q' = Q' (some (.int 0)) (hp nS N)) → am_Wp (d + 10 + 1) 130 70 [.ref 16, .int 1, .int x2, .int x3, .ref 18] [] (hp nS M) (fun v h1 => am_Wp (d + 11 + 1) 129 7 [.ref 16, .int 1, .int x2, .int x3, .retAddr 0] (am_ans v []) h1 (fun o h => ∃ v M1, o = some (.int v) ∧ h = hp nS M1 ∧ am_Wp (d + 12) 218 0 [.ref 205, .int 1, .int x2, .int x3] [] (hp nS M1) (Kq nS c Mi v))) := by
    intro hno
    rw [b_130_70, b_130_71 rok0, am_ans_some, b_129_7, if_neg (fun z => z rfl), b_129_10]
    exact ⟨_, M, rfl, rfl, act_no hC hM hG hno⟩
  rcases rngH x2 s.t.x.T (nI s.t.x.T) rfl (by omega) with hn | ⟨hh, t, rfl, ht⟩
  · rw [ite0_f (fun z => hn (by rw [q2] at z; exact z.1))]
    exact no (fun N Q' hN => by rw [can N Q' hN, if_neg (fun z => hn (by rw [hN.tw.mx.fT] at z; exact z.1))])
  rcases rngH x3 s.t.x.G (nI s.t.x.G) rfl (by omega) with hn | ⟨hh3, g, rfl, hg⟩
  · rw [ite0_f (fun z => hn (by rw [q1] at z; exact z.2.1))]
    exact no (fun N Q' hN => by rw [can N Q' hN, if_neg (fun z => hn (by rw [hN.tw.mx.fG] at z; exact z.2.1))])
  have e46 : ((46 : Int32) + nI t).toNatClampNeg = 46 + t := by rw [adl]; exact cl_n (by omega)
  have e36 : ((36 : Int32) + nI t).toNatClampNeg = 36 + t := by rw [adl]; exact cl_n (by omega)
  have e28 : ((28 : Int32) + nI g).toNatClampNeg = 28 + g := by rw [adl]; exact cl_n (by omega)
  have e56 : ((56 : Int32) + 8 * nI t + nI g).toNatClampNeg = 56 + (8 * t + g) := by rw [st_at]; exact cl_n (by omega)
  have g28 : M 28 t = s.t.W (46 + t) := hC.tw.w.ru t (by omega)
  have g27 : M 27 t = s.t.W (36 + t) := hC.tw.w.pu t (by omega)
  have g26 : M 26 g = s.t.W (28 + g) := hC.tw.w.pr g (by omega)
  have g29 : M 29 (8 * t + g) = s.t.W (56 + (8 * t + g)) := hC.tw.w.st _ (by omega)
  obtain ⟨r, hr, r1, r9⟩ := hG.t.wg.ok.pr g hg
  obtain ⟨p, hp', hpP⟩ := hG.t.wg.ok.pu t (by omega)
  obtain ⟨q, hq, hq9⟩ := hG.t.wg.ok.st (8 * t + g) (by omega)
  rw [cl_n (show t < 2147483648 by omega), g28]
  rcases hG.t.wg.ok.ru t (by omega) with h0 | h0
  · rw [ite0_t ⟨by rw [q2]; exact hh, by rw [q1]; exact hh3, fun z => z h0⟩, b_130_55]
    rw [c_110 (by rw [mul8]; exact in_n (by omega) (by omega)), mul8, cl_n (by omega), g29, hq, am_ans_some, b_130_62]
    have mod : ∀ N : am_M, MI N s → ((¬ (nI t < 0) ∧ (¬ ((N 205 10) ≤ nI t))) ∧ ((¬ (nI g < 0) ∧ (¬ ((N 205 9) ≤ nI g))) ∧ (¬ (¬ (¬ (N 206 (46 + nI t).toNatClampNeg) = 1)) ∧ (((¬ (1 : Int32) = 0) ∧ (¬ ((N 206 ((56 + (8 * nI t)) + nI g).toNatClampNeg) ≤ 0))) ∨ (¬ (¬ (1 : Int32) = 0) ∧ (¬ ((N 206 (36 + nI t).toNatClampNeg) < (N 206 (28 + nI g).toNatClampNeg)) ∧ (¬ (99 ≤ (N 206 ((56 + (8 * nI t)) + nI g).toNatClampNeg))))))))) = (1 ≤ q) := by
      intro N hN
      rw [e46, e56, hN.tw.w _ (by omega), hN.tw.w _ (by omega), hq, hN.tw.mx.fT, hN.tw.mx.fG, show (nI q ≤ (0 : Int32)) = (q ≤ 0) from le_n (b := 0) (by omega) (by omega)]
      exact propext ⟨fun z => z.2.2.2.elim (fun z => by omega) (fun z => absurd bn1 z.1), fun z => ⟨hh, hh3, fun z => z (by rw [h0]; decide), Or.inl ⟨bn1, by omega⟩⟩⟩
    by_cases hok : 1 ≤ q
    · rw [if_neg (by rw [li, lt_n (by omega) (by omega)]; omega), b_130_66, b_130_71 rok1, am_ans_some, b_129_7, if_pos bn1, b_129_12]
      refine x_keep hC hG (fun M1 h1 f1 => ?_)
      rw [am_ans_none, b_129_30, if_pos bn1, b_129_50, if_neg (fun z => z rfl), b_129_55]
      refine x_sells (n := 1) (P := 9999 + 1582416 * c) (KC_of (s := sK s) h1) hG.t.wg.ok (by omega) hG8 (by omega) hg (by omega) (fun M2 h2 => ?_)
      rw [am_ans_none, b_129_68, b_129_96]
      have hF2 := Fc_tr f1 (Fc_KC h2 (Or.inl rfl))
      refine ⟨_, M2, rfl, rfl, act_m (MI_fr hM hG hF2) hG (by rw [hF2 206 (by omega)]; exact eW) (by rw [hF2 211 (by omega)]; exact eB) (CI_KC h1 h2) (WG_tr hG.t.wg hc hL6 hG8 hT10 ht hg (by omega) false) (fun N Q' hN => by rw [can N Q' hN, if_pos (by rw [mod N hN]; exact hok)]) (fun N Q' hN hK hq => ?_)⟩
      rw [b_218_21, if_neg (by decide), b_218_26, if_pos bn1, b_218_37, b_218_38]
      refine m_trade (n := 1) (P := 9999 + 1582416 * c) hK (Stm_of (s := sK s) hN (GI_K hG)) hG.t.wg.ok (by omega) (by omega) hg false (by omega) (by omega) (fun N2 h3 => ?_)
      rw [am_ans_none, b_218_41, if_pos (by decide), b_218_66, if_pos (by decide), b_218_76]
      exact hq N2 h3
    · rw [if_pos (by rw [li, lt_n (by omega) (by omega)]; omega)]
      exact no (fun N Q' hN => by rw [can N Q' hN, if_neg (by rw [mod N hN]; exact hok)])
  · rw [ite0_f (fun z => z.2.2 (by rw [h0]; decide))]
    exact no (fun N Q' hN => by rw [can N Q' hN, if_neg (fun z => z.2.2.1 (fun z => z (by rw [e46, hN.tw.w _ (by omega)]; exact h0)))])
theorem p_act2 {nS d c : Nat} {Mi M : am_M} {s : St} {x2 x3 : Int32} (hC : CI Mi M s) (hM : MI M s) (hG : GI c s) : prS nS (d + 12) c Mi 129 [.ref 16, .int 2, .int x2, .int x3, .retAddr 0] 218 [.ref 205, .int 2, .int x2, .int x3] M := by
  obtain ⟨s, hC, hM, hG, eW, eB⟩ := nrm hC hM hG
  have hL6 := hG.t.L6
  have hG8 := hG.t.G8
  have q0 : M 18 0 = nI s.t.x.L := hC.tw.w.fL
  unfold prS
  rw [b_129_0, b_130_0, if_pos (by decide), b_130_40, if_pos (by decide), b_130_72, if_neg (fun z => z rfl), b_130_77, c_104, am_ans_some, b_130_83]
  have m0 : ∀ (N : am_M) (Q' : Option Value → am_H → Prop), MI N s → am_Wp (d + 11) 219 0 [.ref 205, .int 2, .int x2, .int x3] [] (hp nS N) Q' = if (if (¬ x2 < 0 ∧ ¬ nI s.t.x.L ≤ x2) then (1 : Int32) else 0) = 0 then am_Wp (d + 10 + 1) 219 44 [.ref 205, .int 2, .int x2, .int x3] [] (hp nS N) Q' else am_Wp (d + 10 + 1) 219 30 [.ref 205, .int 2, .int x2, .int x3] [] (hp nS N) Q' := by
    intro N Q' hN
    rw [b_219_0, if_neg (by decide), b_219_4, if_pos (by decide), b_219_17, if_neg (fun z => z rfl), b_219_22, c_177, am_ans_some, b_219_27, hN.tw.mx.fL]
  have n44 : ∀ (N : am_M) (Q' : Option Value → am_H → Prop), am_Wp (d + 10 + 1) 219 44 [.ref 205, .int 2, .int x2, .int x3] [] (hp nS N) Q' = Q' (some (.int 0)) (hp nS N) := by
    intro N Q'
    rw [b_219_44, if_pos (by decide), b_219_69, b_219_70 rok0]
  have no : (∀ (N : am_M) (Q' : Option Value → am_H → Prop), MI N s → am_Wp (d + 11) 219 0 [.ref 205, .int 2, .int x2, .int x3] [] (hp nS N) Q' = Q' (some (.int 0)) (hp nS N)) → am_Wp (d + 10 + 1) 130 102 [.ref 16, .int 2, .int x2, .int x3, .ref 18] [] (hp nS M) (fun v h1 => am_Wp (d + 11 + 1) 129 7 [.ref 16, .int 2, .int x2, .int x3, .retAddr 0] (am_ans v []) h1 (fun o h => ∃ v M1, o = some (.int v) ∧ h = hp nS M1 ∧ am_Wp (d + 12) 218 0 [.ref 205, .int 2, .int x2, .int x3] [] (hp nS M1) (Kq nS c Mi v))) := by
    intro hno
    rw [b_130_102, b_130_103 rok0, am_ans_some, b_129_7, if_neg (fun z => z rfl), b_129_10]
    exact ⟨_, M, rfl, rfl, act_no hC hM hG hno⟩
  rcases rngH x2 s.t.x.L (nI s.t.x.L) rfl (by omega) with hn | ⟨hh, i, rfl, hi⟩
  · rw [ite0_f (by rw [q0]; exact hn)]
    exact no (fun N Q' hN => by rw [m0 N Q' hN, ite0_f hn, n44])
  have g23 : M 23 i = s.t.W (22 + i) := hC.tw.w.sc i (by omega)
  have e22 : ((22 : Int32) + nI i) = nI (22 + i) := adl 22 i
  rw [ite0_t (by rw [q0]; exact hh), b_130_86 (by first | exact in_n (by omega) (by omega) | (simp only [li, nI_add, pk_mul]; exact in_n (by omega) (by omega))), cl_n (by omega), g23]
  by_cases h9 : (9 : Int32) ≤ s.t.W (22 + i)
  · rw [if_pos h9]
    exact no (fun N Q' hN => by rw [m0 N Q' hN, ite0_t hh, b_219_30 (by rw [e22]; exact in_n (by omega) (by omega)), e22, cl_n (by omega), hN.tw.w _ (by omega), if_neg (not_lt' h9), n44])
  · rw [if_neg h9, b_130_98, b_130_103 rok1, am_ans_some, b_129_7, if_pos bn1, b_129_12]
    refine x_keep hC hG (fun M1 h1 f1 => ?_)
    have k23 : M1 23 i = s.t.W (22 + i) := h1.tw.w.sc i (by omega)
    rw [am_ans_none, b_129_30, if_pos (by decide), b_129_50, if_pos (by decide), b_129_71, if_neg (fun z => z rfl), b_129_76 (by first | exact in_n (by omega) (by omega) | (simp only [li, nI_add, pk_mul]; exact in_n (by omega) (by omega))) (by first | exact in_n (by omega) (by omega) | (simp only [li, nI_add, pk_mul]; exact in_n (by omega) (by omega))), cl_n (by omega), k23, b_129_96]
    have h2 := KC_sc (KC_of h1) (Or.inl rfl) (show i < 6 by omega) (s.t.W (22 + i) + 1)
    have hF2 := Fc_tr f1 (Fc_KC h2 (Or.inl rfl))
    refine ⟨_, _, rfl, rfl, act_m (MI_fr hM hG hF2) hG (by rw [hF2 206 (by omega)]; exact eW) (by rw [hF2 211 (by omega)]; exact eB) (CI_KC h1 h2) (WG_oth (WG_mono hG.t.wg (by omega)) _ hG8 (Or.inr (Or.inr ⟨i, hi, hL6, Or.inr rfl⟩))) (fun N Q' hN => by rw [m0 N Q' hN, ite0_t hh, b_219_30 (by rw [e22]; exact in_n (by omega) (by omega)), e22, cl_n (by omega), hN.tw.w _ (by omega), if_pos (lt_of' h9), b_219_65, b_219_70 rok1]) (fun N Q' hN hK hq => ?_)⟩
    rw [b_218_21, if_pos (by decide), b_218_41, if_neg (fun z => z rfl), b_218_46 (by rw [e22]; exact in_n (by omega) (by omega)) (by rw [e22]; exact in_n (by omega) (by omega)), e22, cl_n (by omega), hK.w, b_218_66, if_pos (by decide), b_218_76]
    exact hq _ (KM_W hK _ _)
theorem WG_sk {c : Nat} {x : Cx} {W : Rw} {i : Nat} (h : WG c x W) (hG : x.G ≤ 8) (hL : x.L ≤ 6) (hi : i < x.L) : WG c x (upd (upd W (16 + i) 0) (4 + i) 0) := by
  have h1 : WG c x (upd W (16 + i) 0) := ⟨WOk_lo h.ok (by omega) (Or.inl rfl) hG, ⟨fun k q1 q2 => by rw [upd_ne _ _ (by omega)]; exact h.z.h k q1 q2, fun k q1 q2 => by rw [upd_ne _ _ (by omega)]; exact h.z.t k q1 q2, fun k q1 q2 => by rw [upd_ne _ _ (by omega)]; exact h.z.l k q1 q2, fun k q1 q2 => by rw [upd_ne _ _ (by omega)]; exact h.z.s k q1 q2, fun k q1 q2 => by rw [upd_ne _ _ (by omega)]; exact h.z.r k q1 q2, fun t g q1 q2 q3 => by rw [upd_ne _ _ (by omega)]; exact h.z.st t g q1 q2 q3⟩, by obtain ⟨q, q1, q2⟩ := h.d; exact ⟨q, by rw [upd_ne _ _ (by omega)]; exact q1, q2⟩⟩
  exact WG_oth h1 0 hG (Or.inr (Or.inr ⟨i, hi, hL, Or.inl rfl⟩))
theorem p_act3 {nS d c : Nat} {Mi M : am_M} {s : St} {x2 x3 : Int32} (hC : CI Mi M s) (hM : MI M s) (hG : GI c s) : prS nS (d + 12) c Mi 129 [.ref 16, .int 3, .int x2, .int x3, .retAddr 0] 218 [.ref 205, .int 3, .int x2, .int x3] M := by
  obtain ⟨s, hC, hM, hG, eW, eB⟩ := nrm hC hM hG
  have hL6 := hG.t.L6
  have hG8 := hG.t.G8
  have q0 : M 18 0 = nI s.t.x.L := hC.tw.w.fL
  unfold prS
  rw [b_129_0, b_130_0, if_pos (by decide), b_130_40, if_pos (by decide), b_130_72, if_pos (by decide), b_130_104, if_neg (fun z => z rfl), b_130_109, c_104, am_ans_some, b_130_115]
  have m0 : ∀ (N : am_M) (Q' : Option Value → am_H → Prop), MI N s → am_Wp (d + 11) 219 0 [.ref 205, .int 3, .int x2, .int x3] [] (hp nS N) Q' = if (if (¬ x2 < 0 ∧ ¬ nI s.t.x.L ≤ x2) then (1 : Int32) else 0) = 0 then am_Wp (d + 10 + 1) 219 69 [.ref 205, .int 3, .int x2, .int x3] [] (hp nS N) Q' else am_Wp (d + 10 + 1) 219 57 [.ref 205, .int 3, .int x2, .int x3] [] (hp nS N) Q' := by
    intro N Q' hN
    rw [b_219_0, if_neg (by decide), b_219_4, if_pos (by decide), b_219_17, if_pos (by decide), b_219_44, if_neg (fun z => z rfl), b_219_49, c_177, am_ans_some, b_219_54, hN.tw.mx.fL]
  have no : (∀ (N : am_M) (Q' : Option Value → am_H → Prop), MI N s → am_Wp (d + 11) 219 0 [.ref 205, .int 3, .int x2, .int x3] [] (hp nS N) Q' = Q' (some (.int 0)) (hp nS N)) → am_Wp (d + 10 + 1) 130 133 [.ref 16, .int 3, .int x2, .int x3, .ref 18] [] (hp nS M) (fun v h1 => am_Wp (d + 11 + 1) 129 7 [.ref 16, .int 3, .int x2, .int x3, .retAddr 0] (am_ans v []) h1 (fun o h => ∃ v M1, o = some (.int v) ∧ h = hp nS M1 ∧ am_Wp (d + 12) 218 0 [.ref 205, .int 3, .int x2, .int x3] [] (hp nS M1) (Kq nS c Mi v))) := by
    intro hno
    rw [b_130_133, b_130_134 rok0, am_ans_some, b_129_7, if_neg (fun z => z rfl), b_129_10]
    exact ⟨_, M, rfl, rfl, act_no hC hM hG hno⟩
  rcases rngH x2 s.t.x.L (nI s.t.x.L) rfl (by omega) with hn | ⟨hh, i, rfl, hi⟩
  · rw [ite0_f (by rw [q0]; exact hn)]
    exact no (fun N Q' hN => by rw [m0 N Q' hN, ite0_f hn, b_219_69, b_219_70 rok0])
  have g22 : M 22 i = s.t.W (16 + i) := hC.tw.w.lo i (by omega)
  have e16 : ((16 : Int32) + nI i) = nI (16 + i) := adl 16 i
  have e4 : ((4 : Int32) + nI i) = nI (4 + i) := adl 4 i
  rw [ite0_t (by rw [q0]; exact hh), b_130_118 (by first | exact in_n (by omega) (by omega) | (simp only [li, nI_add, pk_mul]; exact in_n (by omega) (by omega))), cl_n (by omega), g22]
  by_cases h1 : s.t.W (16 + i) = 1
  · rw [if_neg (fun z => z h1), b_130_129, b_130_134 rok1, am_ans_some, b_129_7, if_pos bn1, b_129_12]
    refine x_keep hC hG (fun M1 h1' f1 => ?_)
    have k22 : M1 22 i = s.t.W (16 + i) := h1'.tw.w.lo i (by omega)
    rw [am_ans_none, b_129_30, if_pos (by decide), b_129_50, if_pos (by decide), b_129_71, if_pos (by decide), b_129_90, c_113 (by first | exact in_n (by omega) (by omega) | (simp only [li, nI_add, pk_mul]; exact in_n (by omega) (by omega))) (fun _ => (by first | exact in_n (by omega) (by omega) | (simp only [li, nI_add, pk_mul]; exact in_n (by omega) (by omega)))) (fun _ => (by first | exact in_n (by omega) (by omega) | (simp only [li, nI_add, pk_mul]; exact in_n (by omega) (by omega)))), cl_n (by omega), k22, if_neg (fun z => z h1), am_ans_none, b_129_96]
    have h2 := KC_he (KC_lo (KC_of h1') (Or.inl rfl) (show i < 6 by omega) 0) (Or.inl rfl) (show i < 6 by omega) 0
    have hF2 := Fc_tr f1 (Fc_KC h2 (Or.inl rfl))
    refine ⟨_, _, rfl, rfl, act_m (MI_fr hM hG hF2) hG (by rw [hF2 206 (by omega)]; exact eW) (by rw [hF2 211 (by omega)]; exact eB) (CI_KC h1' h2) (WG_sk (WG_mono hG.t.wg (by omega)) hG8 hL6 hi) (fun N Q' hN => by rw [m0 N Q' hN, ite0_t hh, b_219_57, c_222 (by rw [e16]; exact in_n (by omega) (by omega)), am_ans_some, b_219_62, e16, cl_n (by omega), hN.tw.w _ (by omega), ite0_t (show ¬ ¬ s.t.W (16 + i) = 1 from fun z => z h1), b_219_65, b_219_70 rok1]) (fun N Q' hN hK hq => ?_)⟩
    rw [b_218_21, if_pos (by decide), b_218_41, if_pos (by decide), b_218_66, if_neg (fun z => z rfl), b_218_71, c_227 (by rw [e16]; exact in_n (by omega) (by omega)) (by rw [e4]; exact in_n (by omega) (by omega)), e16, e4, cl_n (by omega), cl_n (by omega), am_ans_none, b_218_76]
    exact hq _ (KM_W (KM_W hK _ _) _ _)
  · rw [if_pos h1]
    exact no (fun N Q' hN => by rw [m0 N Q' hN, ite0_t hh, b_219_57, c_222 (by rw [e16]; exact in_n (by omega) (by omega)), am_ans_some, b_219_62, e16, cl_n (by omega), hN.tw.w _ (by omega), ite0_f (show ¬ ¬ ¬ s.t.W (16 + i) = 1 from fun z => z h1), b_219_69, b_219_70 rok0])
theorem p_act {nS d c : Nat} {Mi M : am_M} {s : St} {x1 x2 x3 : Int32} (hC : CI Mi M s) (hM : MI M s) (hG : GI c s) (hc : c ≤ 1000) : prS nS (d + 12) c Mi 129 [.ref 16, .int x1, .int x2, .int x3, .retAddr 0] 218 [.ref 205, .int x1, .int x2, .int x3] M := by
  by_cases e0 : x1 = 0
  · rw [e0]; exact p_act0 hC hM hG hc
  by_cases e1 : x1 = 1
  · rw [e1]; exact p_act1 hC hM hG hc
  by_cases e2 : x1 = 2
  · rw [e2]; exact p_act2 hC hM hG
  by_cases e3 : x1 = 3
  · rw [e3]; exact p_act3 hC hM hG
  unfold prS
  rw [b_129_0, b_130_0, if_pos e0, b_130_40, if_pos e1, b_130_72, if_pos e2, b_130_104, if_pos e3, b_130_133, b_130_134 rok0, am_ans_some, b_129_7, if_neg (fun z => z rfl), b_129_10]
  refine ⟨_, M, rfl, rfl, act_no hC hM hG (fun N Q' _ => ?_)⟩
  rw [b_219_0, if_neg e0, b_219_4, if_pos e1, b_219_17, if_pos e2, b_219_44, if_pos e3, b_219_69, b_219_70 rok0]
end
