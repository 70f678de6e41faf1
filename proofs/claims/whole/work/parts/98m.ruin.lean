section
/-! WHEN ONE IS RUINED -/
def ruF (t : Tn) (i : Nat) : Nat → Nat → Int32
  | 0, j => if (thI t j).1 (46 + i) = 1 then nI j else -1
  | m + 1, j => if (thI t j).1 (46 + i) = 1 then nI j else ruF t i m (j + 1)
theorem x_ruL {nS d c D i : Nat} {Mi M1 : am_M} {s : St} {Q : Option Value → am_H → Prop} (hC : CI Mi M1 s) (hG : GI c s) (hc : c ≤ 1000) (hD : s.t.W 0 = nI D) (hD9 : D ≤ 9999) (hi : i < s.t.x.T) : ∀ (m j : Nat) (M : am_M), j + m = 60 → KC 101 M1 M s.t.x (thI s.t j).1 (thI s.t j).2 → (∀ M' j', j' ≤ 60 → KC 101 M1 M' s.t.x (thI s.t j').1 (thI s.t j').2 → Q (some (.int (ruF s.t i m j))) (hp nS M')) → am_Wp (d + 5) 143 32 [.ref 16, .int (nI i), .int (nI j)] [] (hp nS M) Q := by
  have hT10 := hG.t.T10
  intro m
  induction m with
  | zero =>
    intro j M hj h hQ
    have hj : j = 60 := by omega
    subst hj
    have g : M 111 i = (thI s.t 60).1 (46 + i) := h.cw.ru i (by omega)
    have hq := hQ M 60 (by omega) h
    rw [ruF] at hq
    rw [b_143_32, if_pos (by decide), b_143_72 (by first | exact in_n (by omega) (by omega) | (simp only [li, nI_add, pk_mul]; exact in_n (by omega) (by omega))), cl_n (by omega), g]
    by_cases c1 : (thI s.t 60).1 (46 + i) = 1
    · rw [if_pos c1] at hq
      rw [if_neg (fun z => z c1), b_143_85, b_143_91]
      exact hq
    · rw [if_neg c1] at hq
      rw [if_pos c1, b_143_90, b_143_91]
      exact hq
  | succ m ih =>
    intro j M hj h hQ
    obtain ⟨o1, o2, o3⟩ := th_ok hG hc hD hD9 j (by omega)
    have n16 := hG.t.tk.n16
    have hcl := trC_le s.t.tr D j s.t.tr.n
    have g : M 111 i = (thI s.t j).1 (46 + i) := h.cw.ru i (by omega)
    rw [ruF] at hQ
    rw [b_143_32, if_neg (by rw [li, le_n (by omega) (by omega)]; omega), b_143_38 (by first | exact in_n (by omega) (by omega) | (simp only [li, nI_add, pk_mul]; exact in_n (by omega) (by omega))), cl_n (by omega), g]
    by_cases c1 : (thI s.t j).1 (46 + i) = 1
    · rw [if_pos c1] at hQ
      rw [if_neg (fun z => z c1), b_143_51]
      exact hQ M j (by omega) h
    · rw [if_neg c1] at hQ
      rw [if_pos c1, b_143_53]
      refine x_dayi1 h (Sts_of hC hG) hC.tw.dn hG.t.dk hC.tw.tr hG.t.tk o1 (by omega) (fun M2 h2 _ => ?_)
      rw [am_ans_some, b_143_65, nI_1]
      exact ih (j + 1) M2 (by omega) h2 hQ
theorem m_ruL {nS d c D i : Nat} {M0 N : am_M} {s : St} {Q : Option Value → am_H → Prop} (hM : MI M0 s) (ht : TH M0 N) (hG : GI c s) (hc : c ≤ 1000) (hD : s.t.W 0 = nI D) (hD9 : D ≤ 9999) (hi : i < s.t.x.T) : ∀ (m j : Nat) (M : am_M), j + m = 60 → KM N M (thI s.t j).1 (thI s.t j).2 → (∀ M', MI M' s → Fm M0 M' → Q (some (.int (ruF s.t i m j))) (hp nS M')) → am_Wp (d + 7) 255 21 [.ref 205, .int (nI i), .int (nI j)] [] (hp nS M) Q := by
  have hS := Stm_th hM hG ht
  have hDn := MDn_e hM.tw.dn (eqM_7 ht.e) hG.t.dk.n16
  have hTr := MTr_e hM.tw.tr (eqM_7 ht.e) hG.t.tk.n16
  have hT10 := hG.t.T10
  have fin : ∀ j M, j ≤ 60 → KM N M (thI s.t j).1 (thI s.t j).2 → (∀ M', MI M' s → Fm M0 M' → Q (some (.int (nI j))) (hp nS M')) → am_Wp (d + 6 + 1) 255 47 [.ref 205, .int (nI i), .int (nI j)] [] (hp nS M) Q := by
    intro j M hj h hQ
    have hB := (th_ok hG hc hD hD9 j (by omega)).2.2
    rw [b_255_47]
    refine m_ends hM hG ht h (fun k _ => by rw [hB]) (fun N3 h4 f4 => ?_)
    rw [am_ans_none, b_255_51, if_pos (by rw [li, le_n (by omega) (by omega)]; exact hj), b_255_61, b_255_62]
    exact hQ N3 h4 f4
  have ec : ((46 : Int32) + nI i).toNatClampNeg = 46 + i := by rw [adl]; exact cl_n (by omega)
  have stp : ∀ j M, j ≤ 60 → KM N M (thI s.t j).1 (thI s.t j).2 → am_Wp (d + 7) 255 21 [.ref 205, .int (nI i), .int (nI j)] [] (hp nS M) Q = if (thI s.t j).1 (46 + i) = 1 then am_Wp (d + 6 + 1) 255 47 [.ref 205, .int (nI i), .int (nI j)] [] (hp nS M) Q else am_Wp (d + 6 + 1) 255 35 [.ref 205, .int (nI i), .int (nI j)] [] (hp nS M) Q := by
    intro j M hj h
    rw [b_255_21, if_neg (by rw [li, lt_n (by omega) (by omega)]; omega), b_255_27, c_221 (by rw [adl]; exact in_n (by omega) (by omega)), am_ans_some, b_255_32, ec, h.w]
    by_cases c1 : (thI s.t j).1 (46 + i) = 1
    · rw [if_pos c1, ite1_t (show ¬ ¬ (thI s.t j).1 (46 + i) = 1 from fun z => z c1)]
    · rw [if_neg c1, ite1_f (show ¬ ¬ ¬ (thI s.t j).1 (46 + i) = 1 from fun z => z c1)]
  intro m
  induction m with
  | zero =>
    intro j M hj h hQ
    have hj : j = 60 := by omega
    subst hj
    obtain ⟨o1, o2, o3⟩ := th_ok hG hc hD hD9 60 (by omega)
    have n16 := hG.t.tk.n16
    have hcl := trC_le s.t.tr D 60 s.t.tr.n
    rw [ruF] at hQ
    rw [stp 60 M (by omega) h]
    by_cases c1 : (thI s.t 60).1 (46 + i) = 1
    · rw [if_pos c1] at hQ
      rw [if_pos c1]
      exact fin 60 M (by omega) h hQ
    · rw [if_neg c1] at hQ
      rw [if_neg c1, b_255_35]
      refine m_day h hS hDn hG.t.dk hTr hG.t.tk o1 (by omega) (fun M2 h2 => ?_)
      have hB := (th_ok hG hc hD hD9 61 (by omega)).2.2
      rw [am_ans_some, b_255_39, nI_1, b_255_21, if_pos (by decide), b_255_47]
      refine m_ends hM hG ht h2 (fun k _ => by rw [← thI_s, hB]) (fun N3 h4 f4 => ?_)
      rw [am_ans_none, b_255_51, if_neg (by decide), b_255_57, b_255_62]
      exact hQ N3 h4 f4
  | succ m ih =>
    intro j M hj h hQ
    obtain ⟨o1, o2, o3⟩ := th_ok hG hc hD hD9 j (by omega)
    have n16 := hG.t.tk.n16
    have hcl := trC_le s.t.tr D j s.t.tr.n
    rw [ruF] at hQ
    rw [stp j M (by omega) h]
    by_cases c1 : (thI s.t j).1 (46 + i) = 1
    · rw [if_pos c1] at hQ
      rw [if_pos c1]
      exact fin j M (by omega) h hQ
    · rw [if_neg c1] at hQ
      rw [if_neg c1, b_255_35]
      refine m_day h hS hDn hG.t.dk hTr hG.t.tk o1 (by omega) (fun M2 h2 => ?_)
      rw [am_ans_some, b_255_39, nI_1]
      exact ih (j + 1) M2 (by omega) h2 hQ
theorem p_ruin {nS d c : Nat} {Mi M : am_M} {s : St} {x1 : Int32} (hC : CI Mi M s) (hM : MI M s) (hG : GI c s) (hc : c ≤ 1000) : prS nS (d + 12) c Mi 143 [.ref 16, .int x1, .retAddr 0] 255 [.ref 205, .int x1, .retAddr 0] M := by
  obtain ⟨s, hC, hM, hG, eW, eB⟩ := nrm hC hM hG
  obtain ⟨D, hD, hD9⟩ := hG.t.wg.d
  have hG8 := hG.t.G8
  have hT10 := hG.t.T10
  have q2 : M 18 2 = nI s.t.x.T := hC.tw.w.fT
  unfold prS
  rw [b_143_0, c_107, am_ans_some, b_143_11]
  rcases rngH x1 s.t.x.T (nI s.t.x.T) rfl (by omega) with hn | ⟨hh, i, rfl, hi⟩
  · rw [ite1_f (by rw [q2]; exact hn), b_143_14]
    refine ⟨_, M, rfl, rfl, ?_⟩
    rw [b_255_0, c_179, am_ans_some, b_255_10, ite1_f (by rw [(told_MI hM hG).tw.mx.fT]; exact hn), b_255_13]
    exact Kq_no hC hM hG
  rw [ite1_t (by rw [q2]; exact hh), b_143_16]
  refine w_101_18 (d := d + 9) (fun M1 hw => ?_)
  obtain ⟨hC1, hK1, hF1⟩ := KC_101 hC hw hG8
  rw [am_ans_none, b_143_30]
  refine x_ruL (d := d + 7) hC1 hG hc hD hD9 hi 60 0 M1 (by omega) hK1 (fun M2 j' hj' h2 => ?_)
  have hB : (thI s.t j').2 = s.t.B := (th_ok hG hc hD hD9 j' (by omega)).2.2
  have hC2 : CI Mi M2 s := CI_th hC1 (by rw [← hB]; exact h2)
  have hF2 : Fc M M2 := Fc_tr hF1 (Fc_KC h2 (Or.inr rfl))
  have hM2 : MI M2 s := MI_fr hM hG hF2
  have hMT := told_MI hM2 hG
  refine ⟨_, M2, rfl, rfl, ?_⟩
  rw [b_255_0, c_179, am_ans_some, b_255_10, ite1_t (by rw [hMT.tw.mx.fT]; exact hh), b_255_15]
  refine m_thinks (fun N ht => ?_)
  rw [am_ans_none, b_255_19]
  have eW2 : N 206 = s.t.W := by
    have : N 206 = am_up M2 205 0 0 206 := funext fun k => ht.e 206 k (by omega)
    rw [this, up_ne _ _ _ (by decide), hF2 206 (by omega)]; exact eW.symm
  have eB2 : N 211 = s.t.B := by
    have : N 211 = am_up M2 205 0 0 211 := funext fun k => ht.e 211 k (by omega)
    rw [this, up_ne _ _ _ (by decide), hF2 211 (by omega)]; exact eB.symm
  refine m_ruL (d := d + 5) hMT ht hG hc hD hD9 hi 60 0 N (by omega) ⟨eW2, eB2, fun _ _ _ _ _ => rfl⟩ (fun N3 h4 f4 => ?_)
  exact Kq_mk hC2 h4 (Fm_tr (Fm_up _ _ (by omega)) f4) (GI_mono hG (by omega))
end
