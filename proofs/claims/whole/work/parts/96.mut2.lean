section
theorem wyB_c {ea eb ea' eb' : Nat → Nat} {p q : Nat} : ∀ n, (∀ k, k < n → ea k = ea' k ∧ eb k = eb' k) → wyB ea eb n p q = wyB ea' eb' n p q
  | 0, _ => rfl
  | n + 1, h => by
    rw [wyB, wyB, wyB_c n (fun k hk => h k (by omega)), (h n (by omega)).1, (h n (by omega)).2]
theorem m_way0 {d nS : Nat} {x1 x2 : Int32} {Q : Option Value → am_H → Prop} : ∀ (m k : Nat) (M : am_M), k + m = 8 → (∀ j, j < k → M 232 j = 0) → (∀ r : Rw, (∀ j, j < 8 → r j = 0) → Q (some (.int 0)) (hp nS (am_row M 232 r))) → am_Wp d 279 17 [.ref 205, .int x1, .int x2, .int (nI k)] [] (hp nS M) Q := by
  intro m
  induction m with
  | zero =>
    intro k M hk hr hQ
    have : k = 8 := by omega
    subst this
    rw [b_279_17, if_pos (by decide), b_279_36]
    have := hQ (M 232) hr
    rw [row_id] at this
    exact this
  | succ m ih =>
    intro k M hk hr hQ
    rw [b_279_17, if_neg (by rw [li, le_n (by omega) (by omega)]; omega), b_279_23 (by first | exact in_n (by omega) (by omega) | (simp only [li, nI_add, pk_mul]; exact in_n (by omega) (by omega))), cl_n (by omega), nI_1]
    refine ih (k + 1) _ (by omega) (fun j hj => ?_) (fun r hr' => ?_)
    · rw [up_same, upd_at]
      by_cases e : j = k
      · rw [if_pos e]
      · rw [if_neg e]; exact hr j (by omega)
    · rw [up_def, row_row]
      exact hQ r hr'
theorem p_way {nS d c : Nat} {Mi M : am_M} {s : St} {x1 x2 : Int32} (hC : CI Mi M s) (hM : MI M s) (hG : GI c s) : prS nS (d + 12) c Mi 157 [.ref 16, .int x1, .int x2] 279 [.ref 205, .int x1, .int x2, .retAddr 0] M := by
  have h14 := hG.t.w14
  have g50 : M 50 1 = nI s.t.wn := hC.tw.wn
  have hGT := GT_mono hG.t (show c ≤ c + 1 by omega)
  have p1 : M 50 1 < 14 → s.t.wn < 14 := fun h => by rw [g50, li, lt_n (by omega) (by omega)] at h; exact h
  unfold prS
  rw [c_157 (fun _ _ _ _ h => by have := p1 h; rw [g50, mul2]; exact in_n (by omega) (by omega)) (fun _ _ _ _ h => by have := p1 h; rw [up_ne _ _ _ (show (50 : Nat) ≠ 51 by decide), g50, mul2, nI_1]; exact in_n (by omega) (by omega))]
  by_cases e0 : x1 = -1
  · rw [if_neg (fun z => z e0)]
    refine ⟨_, _, rfl, rfl, ?_⟩
    have hC1 : CI Mi (am_up M 50 1 0) (sT s (tY s.t 0 s.t.ea s.t.eb)) := CI_T hC (CT_Y hC.tw (by omega) (by rw [up_same, upd_same]; rfl) (fun k hk => by omega) (fun a k h1 h2 h3 h4 => up_pt _ _ (by omega))) rfl (fun a k h1 h2 h3 => up_pt _ _ (by omega))
    have hM1 : MI (am_up M 50 1 0) s := MI_fr hM hG (Fc_up _ _ (by omega))
    have hMT := told_MI hM1 hG
    rw [b_279_0, if_neg (fun z => z e0), b_279_10]
    refine m_way0 8 0 _ (by omega) (fun j hj => by omega) (fun r hr => ?_)
    refine Kq_mk hC1 (MI_T hMT hG (MT_Y hMT.tw (GT_bd hG.t) (by rw [row_ne _ _ (by decide), up_same, upd_same]; rfl) (fun p q hp hq => by rw [row_same, hr p hp]; exact b_0 q) (fun a k h1 h2 h3 => by rw [row_pt _ _ _ (by omega), up_pt _ _ (by omega)])) (fun a k h1 h2 h3 => by rw [row_pt _ _ _ (by unfold rT at h3; omega), up_pt _ _ (by unfold rT at h3; omega)])) (Fm_tr (Fm_tr (Fm_up _ _ (by omega)) (Fm_up _ _ (by omega))) (Fm_row _ (by omega))) (GI_T hG (GT_Y hGT (by omega) (fun k hk => by omega)) rfl)
  have m0 : ∀ {M1 : am_M} {Q : Option Value → am_H → Prop}, am_Wp (d + 12) 279 0 [.ref 205, .int x1, .int x2, .retAddr 0] [] (hp nS M1) Q = if (if (¬ x1 < 0 ∧ ¬ 7 < x1) then (1 : Int32) else 0) = 0 then am_Wp (d + 11 + 1) 279 74 [.ref 205, .int x1, .int x2, .retAddr 0] [] (hp nS (am_up M1 205 0 0)) Q else am_Wp (d + 11 + 1) 279 49 [.ref 205, .int x1, .int x2, .retAddr 0] [] (hp nS (am_up M1 205 0 0)) Q := by
    intro M1 Q
    rw [b_279_0, if_pos e0, b_279_38, c_171, am_ans_some, b_279_46]
  rw [if_pos e0]
  rcases rng x1 0 7 0 7 rfl rfl (by omega) (by omega) with ⟨o1, i1⟩ | ⟨o1, i1, a, rfl, a1, a2⟩
  · rw [if_pos o1]
    refine ⟨_, M, rfl, rfl, ?_⟩
    rw [m0, ite0_f i1, b_279_74]
    exact Kq_no hC hM hG
  rw [if_neg o1]
  rcases rng x2 0 7 0 7 rfl rfl (by omega) (by omega) with ⟨o2, i2⟩ | ⟨o2, i2, b, rfl, b1, b2⟩
  · rw [if_pos o2]
    refine ⟨_, M, rfl, rfl, ?_⟩
    rw [m0, ite0_t i1, b_279_49, c_171, am_ans_some, b_279_57, ite0_f i2, b_279_74]
    exact Kq_no hC hM hG
  rw [if_neg o2]
  have m2 : ∀ {M1 : am_M} {Q : Option Value → am_H → Prop}, am_Wp (d + 12) 279 0 [.ref 205, .int (nI a), .int (nI b), .retAddr 0] [] (hp nS M1) Q = am_Wp (d + 11 + 1) 279 60 [.ref 205, .int (nI a), .int (nI b), .retAddr 0] [] (hp nS (am_up M1 205 0 0)) Q := by
    intro M1 Q
    rw [m0, ite0_t i1, b_279_49, c_171, am_ans_some, b_279_57, ite0_t i2]
  by_cases hab : a = b
  · rw [if_pos (by rw [hab])]
    refine ⟨_, M, rfl, rfl, ?_⟩
    rw [m2, b_279_60, if_pos (by rw [hab]), b_279_74]
    exact Kq_no hC hM hG
  have nab : ¬ nI a = nI b := by rw [eq_n (by omega) (by omega)]; exact hab
  rw [if_neg nab]
  by_cases hf : s.t.wn < 14
  · have u1 : ∀ v, am_up M 51 (2 * s.t.wn) v 50 1 = nI s.t.wn := fun v => by rw [up_ne _ _ _ (by decide), g50]
    rw [if_pos (by rw [g50, li, lt_n (by omega) (by omega)]; exact hf), g50, mul2, cl_n (by omega), u1, mul2, nI_1, cl_n (by omega), up_same, upd_same, up_ne _ _ _ (show (50 : Nat) ≠ 51 by decide), u1, nI_1]
    refine ⟨_, _, rfl, rfl, ?_⟩
    have hC1 : CI Mi (am_up (am_up (am_up M 51 (2 * s.t.wn) (nI a)) 51 (2 * s.t.wn + 1) (nI b)) 50 1 (nI (s.t.wn + 1))) (sT s (tY s.t (s.t.wn + 1) (nu s.t.ea s.t.wn a) (nu s.t.eb s.t.wn b))) := by
      refine CI_T hC (CT_Y hC.tw (by omega) (by rw [up_same, upd_same]) (fun k hk => ?_) (fun a k h1 h2 h3 h4 => by rw [up_pt _ _ (by omega), up_pt _ _ (by omega), up_pt _ _ (by omega)])) rfl (fun a k h1 h2 h3 => by rw [up_pt _ _ (by omega), up_pt _ _ (by omega), up_pt _ _ (by omega)])
      show am_up (am_up (am_up M 51 (2 * s.t.wn) (nI a)) 51 (2 * s.t.wn + 1) (nI b)) 50 1 (nI (s.t.wn + 1)) 51 (2 * k) = _ ∧ am_up (am_up (am_up M 51 (2 * s.t.wn) (nI a)) 51 (2 * s.t.wn + 1) (nI b)) 50 1 (nI (s.t.wn + 1)) 51 (2 * k + 1) = _
      rw [up_ne _ _ _ (by decide), up_same, up_same]
      by_cases ek : k = s.t.wn
      · rw [ek, nu_same, nu_same, upd_ne _ _ (by omega), upd_same, upd_same]
        exact ⟨rfl, rfl⟩
      · rw [nu_ne _ _ ek, nu_ne _ _ ek, upd_ne _ _ (by omega), upd_ne _ _ (by omega), upd_ne _ _ (by omega), upd_ne _ _ (by omega)]
        exact hC.tw.we k (by omega)
    have hM1 : MI (am_up (am_up (am_up M 51 (2 * s.t.wn) (nI a)) 51 (2 * s.t.wn + 1) (nI b)) 50 1 (nI (s.t.wn + 1))) s := MI_fr hM hG (Fc_tr (Fc_tr (Fc_up _ _ (by omega)) (Fc_up _ _ (by omega))) (Fc_up _ _ (by omega)))
    have hMT := told_MI hM1 hG
    generalize am_up (am_up (am_up M 51 (2 * s.t.wn) (nI a)) 51 (2 * s.t.wn + 1) (nI b)) 50 1 (nI (s.t.wn + 1)) = M1 at *
    have gm1 := hMT.tw.wn
    rw [m2, b_279_60, if_neg nab, b_279_65, gm1, if_pos (by rw [li, eq_n (by omega) (by omega)]; omega), b_279_76 (by first | exact in_n (by omega) (by omega) | (simp only [li, nI_add, pk_mul]; exact in_n (by omega) (by omega))) (by first | exact in_n (by omega) (by omega) | (simp only [li, nI_add, pk_mul]; exact in_n (by omega) (by omega))) (by first | exact in_n (by omega) (by omega) | (simp only [li, nI_add, pk_mul]; exact in_n (by omega) (by omega))) (by first | exact in_n (by omega) (by omega) | (simp only [li, nI_add, pk_mul]; exact in_n (by omega) (by omega))), cl_n (by omega), cl_n (by omega)]
    have hwy := hMT.tw.wy
    have hF : Fm M1 (am_up M1 205 0 0) := Fm_up _ _ (by omega)
    generalize am_up M1 205 0 0 = M2 at *
    have uu : ∀ x y i j, am_up (am_up M2 232 i x) 232 j y 205 51 = nI s.t.wn := fun x y i j => by rw [up_ne _ _ _ (by decide), up_ne _ _ _ (by decide), gm1]
    rw [up_same, upd_same, uu, nI_1]
    refine Kq_mk hC1 (MI_T hMT hG (MT_Y hMT.tw (GT_bd hG.t) (by rw [up_same, upd_same]) (fun p q hp hq => ?_) (fun a k h1 h2 h3 => by rw [up_pt _ _ (by omega), up_pt _ _ (by omega), up_pt _ _ (by omega)])) (fun a k h1 h2 h3 => by rw [up_pt _ _ (by unfold rT at h3; omega), up_pt _ _ (by unfold rT at h3; omega), up_pt _ _ (by unfold rT at h3; omega)])) (Fm_tr hF (Fm_tr (Fm_tr (Fm_up _ _ (by omega)) (Fm_up _ _ (by omega))) (Fm_up _ _ (by omega)))) (GI_T hG (GT_Y hGT (by omega) (fun k hk => ?_)) rfl)
    · rw [up_ne _ _ _ (by decide), up_same, up_same, near_s (M2 232) (by omega) (by omega) hq, hwy p q hp hq, wyB, nu_same, nu_same, wyB_c (ea' := s.t.ea) (eb' := s.t.eb) s.t.wn (fun k hk => ⟨nu_ne _ _ (by omega), nu_ne _ _ (by omega)⟩)]
    · by_cases ek : k = s.t.wn
      · rw [ek, nu_same, nu_same]; omega
      · rw [nu_ne _ _ ek, nu_ne _ _ ek]; exact hG.t.we k (by omega)
  · rw [if_neg (by rw [g50, li, lt_n (by omega) (by omega)]; exact hf)]
    refine ⟨_, M, rfl, rfl, ?_⟩
    rw [m2, b_279_60, if_neg nab, b_279_65, if_neg (fun z => z (by rw [(told_MI hM hG).tw.wn, show s.t.wn = 14 by omega]; rfl)), b_279_74]
    exact Kq_no hC hM hG
theorem and255 (y : Int32) : ∃ m, y &&& 255 = nI m ∧ m < 256 := by
  refine ⟨(y &&& 255).toBitVec.toNat, Int32.toBitVec_inj.mp ?_, ?_⟩
  · show _ = BitVec.ofNat 32 _
    rw [BitVec.ofNat_toNat, BitVec.setWidth_eq]
  · rw [Int32.toBitVec_and, BitVec.toNat_and]
    exact Nat.lt_of_le_of_lt Nat.and_le_right (by decide)
def byt (x : Int32) (z : Nat) : Nat := ((x >>> (nI z &&& 31)) &&& 255).toBitVec.toNat
theorem byt_lt (x : Int32) (z : Nat) : byt x z < 256 := by
  unfold byt
  rw [Int32.toBitVec_and, BitVec.toNat_and]
  exact Nat.lt_of_le_of_lt Nat.and_le_right (by decide)
theorem byt_m (x : Int32) (z : Nat) : (x >>> (nI z &&& 31)) &&& 255 = nI (byt x z) := by
  refine Int32.toBitVec_inj.mp ?_
  show _ = BitVec.ofNat 32 _
  unfold byt
  rw [BitVec.ofNat_toNat, BitVec.setWidth_eq]
theorem byt_c (x : Int32) {z : Nat} (hz : z ≤ 24) : ((x.toUInt32 >>> ((nI z).toUInt32 &&& Int32.toUInt32 31)).toInt32) &&& 255 = nI (byt x z) := by
  rw [← byt_m]
  refine b_ext (fun i hi => ?_)
  rw [b_and, b_and, b_255]
  by_cases h : i < 8
  · rw [b_ushr z (by omega), b_sshr z (by omega) _ hi, if_pos (by omega)]
  · rw [decide_eq_false h, Bool.and_false, Bool.and_false]
end
