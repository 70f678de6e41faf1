section
theorem Kq_mk {nS c : Nat} {Mi M1 M2 : am_M} {s' : St} {v : Int32} (hC1 : CI Mi M1 s') (hM2 : MI M2 s') (hF : Fm M1 M2) (hG' : GI (c + 1) s') : Kq nS c Mi v (some (.int v)) (hp nS M2) := ⟨rfl, M2, s', rfl, CI_fr hC1 hF, hM2, hG'⟩
def nu (f : Nat → Nat) (k v : Nat) : Nat → Nat := fun j => if j = k then v else f j
theorem nu_same (f : Nat → Nat) (k v : Nat) : nu f k v k = v := if_pos rfl
theorem nu_ne (f : Nat → Nat) {k j : Nat} (v : Nat) (h : j ≠ k) : nu f k v j = f j := if_neg h
theorem GT_P {c : Nat} {t : Tn} {n : Nat} {p : Nat → Nat} (h : GT c t) (h1 : n ≤ 14) (h2 : ∀ k, k < n → 1 ≤ p k ∧ p k ≤ 99) : GT c (tP t n p) := ⟨h.L6, h.G8, h.T10, h.up, h.u0, h.ok, h.dk, h.tk, h.b16, h1, h2, h.w14, h.we, h.rt, h.r0, h.s8, h.sw, h.sv, h.wg⟩
theorem GT_Y {c : Nat} {t : Tn} {n : Nat} {p q : Nat → Nat} (h : GT c t) (h1 : n ≤ 14) (h2 : ∀ k, k < n → p k < 8 ∧ q k < 8) : GT c (tY t n p q) := ⟨h.L6, h.G8, h.T10, h.up, h.u0, h.ok, h.dk, h.tk, h.b16, h.p14, h.pr, h1, h2, h.rt, h.r0, h.s8, h.sw, h.sv, h.wg⟩
theorem GT_R {c : Nat} {t : Tn} {r : Nat → Nat} (h : GT c t) (h1 : rts r) (h2 : ∀ i, i < 4 → r (5 * i) = 0) : GT c (tR t r) := ⟨h.L6, h.G8, h.T10, h.up, h.u0, h.ok, h.dk, h.tk, h.b16, h.p14, h.pr, h.w14, h.we, h1, h2, h.s8, h.sw, h.sv, h.wg⟩
theorem GT_S {c : Nat} {t : Tn} {n : Nat} {p q : Nat → Nat} (h : GT c t) (h1 : n ≤ 8) (h2 : ∀ k, k < n → 1 ≤ p k ∧ p k ≤ 30) (h3 : ∀ k, k < n → 1 ≤ q k ∧ q k ≤ 99) : GT c (tS t n p q) := ⟨h.L6, h.G8, h.T10, h.up, h.u0, h.ok, h.dk, h.tk, h.b16, h.p14, h.pr, h.w14, h.we, h.rt, h.r0, h1, h2, h3, h.wg⟩
theorem p_price {nS d c : Nat} {Mi M : am_M} {s : St} {x1 : Int32} (hC : CI Mi M s) (hM : MI M s) (hG : GI c s) : prS nS (d + 12) c Mi 144 [.ref 16, .int x1] 256 [.ref 205, .int x1] M := by
  have h14 := hG.t.p14
  have g45 : M 45 1 = nI s.t.pn := hC.tw.pn
  have gm : am_up M 205 0 0 205 45 = nI s.t.pn := (told_MI hM hG).tw.pn
  have hGT := GT_mono hG.t (show c ≤ c + 1 by omega)
  have mo : ∀ {M : am_M} {Q : Option Value → am_H → Prop}, am_up M 205 0 0 205 45 = nI s.t.pn → am_Wp (d + 12) 256 0 [.ref 205, .int x1] [] (hp nS M) Q = _ := fun gm => c_256 (fun _ _ h => by rw [gm] at h ⊢; rw [li, eq_n (by omega) (by omega)] at h; exact in_n (by omega) (by omega))
  unfold prS
  rw [c_144 (fun _ _ _ h => by rw [g45] at h ⊢; rw [li, lt_n (by omega) (by omega)] at h; exact in_n (by omega) (by omega))]
  by_cases e0 : x1 = -1
  · rw [if_neg (fun z => z e0)]
    refine ⟨_, _, rfl, rfl, ?_⟩
    have hC1 : CI Mi (am_up M 45 1 0) (sT s (tP s.t 0 s.t.pr)) := CI_T hC (CT_P hC.tw (by omega) (by rw [up_same, upd_same]; rfl) (fun k hk => by omega) (fun a k h1 h2 h3 h4 => up_pt _ _ (by omega))) rfl (fun a k h1 h2 h3 => up_pt _ _ (by omega))
    have hM1 : MI (am_up M 45 1 0) s := MI_fr hM hG (Fc_up _ _ (by omega))
    have hMT := told_MI hM1 hG
    rw [mo hMT.tw.pn, if_neg (fun z => z e0)]
    refine Kq_mk hC1 (MI_T hMT hG (MT_P hMT.tw (GT_bd hG.t) (by rw [up_same, upd_same]; rfl) (fun k hk => by omega) (fun a k h1 h2 h3 => up_pt _ _ (by omega))) (fun a k h1 h2 h3 => up_pt _ _ (by unfold rT at h3; omega))) (Fm_tr (Fm_up _ _ (by omega)) (Fm_up _ _ (by omega))) (GI_T hG (GT_P hGT (by omega) (fun k hk => by omega)) rfl)
  rw [if_pos e0]
  rcases rng x1 1 99 1 99 rfl rfl (by omega) (by omega) with ⟨o1, i1⟩ | ⟨o1, i1, n, rfl, n1, n2⟩
  · have hcl : ∀ {A B : Prop} {R : Prop}, (x1 < 1 → A) → (¬ x1 < 1 → 99 < x1 → A) → A := fun f g => by
      by_cases z : x1 < 1
      · exact f z
      · by_cases z2 : 99 < x1
        · exact g z z2
        · exact absurd ⟨z, z2⟩ i1
    have fin : ∃ v M1, some (Value.int (-1)) = some (Value.int v) ∧ hp nS M = hp nS M1 ∧ am_Wp (d + 12) 256 0 [.ref 205, .int x1] [] (hp nS M1) (Kq nS c Mi v) := by
      refine ⟨_, M, rfl, rfl, ?_⟩
      rw [mo gm, if_pos e0, if_neg i1]
      exact Kq_no hC hM hG
    by_cases z : x1 < 1
    · rw [if_pos z]; exact fin
    · by_cases z2 : 99 < x1
      · rw [if_neg z, if_pos z2]; exact fin
      · exact absurd ⟨z, z2⟩ i1
  · rw [if_neg i1.1, if_neg i1.2]
    by_cases hf : s.t.pn < 14
    · rw [if_pos (by rw [g45, li, lt_n (by omega) (by omega)]; exact hf), g45, cl_n (by omega), up_same, upd_same, up_ne _ _ _ (show (45 : Nat) ≠ 46 by decide), g45, nI_1]
      refine ⟨_, _, rfl, rfl, ?_⟩
      have hC1 : CI Mi (am_up (am_up M 46 s.t.pn (nI n)) 45 1 (nI (s.t.pn + 1))) (sT s (tP s.t (s.t.pn + 1) (nu s.t.pr s.t.pn n))) := by
        refine CI_T hC (CT_P hC.tw (by omega) (by rw [up_same, upd_same]) (fun k hk => ?_) (fun a k h1 h2 h3 h4 => by rw [up_pt _ _ (by omega), up_pt _ _ (by omega)])) rfl (fun a k h1 h2 h3 => by rw [up_pt _ _ (by omega), up_pt _ _ (by omega)])
        rw [up_ne _ _ _ (by omega), up_same, upd_at]
        by_cases ek : k = s.t.pn
        · rw [if_pos ek, ek, nu_same]
        · rw [if_neg ek, nu_ne _ _ ek]; exact hC.tw.pr k (by omega)
      have hM1 : MI (am_up (am_up M 46 s.t.pn (nI n)) 45 1 (nI (s.t.pn + 1))) s := MI_fr hM hG (Fc_tr (Fc_up _ _ (by omega)) (Fc_up _ _ (by omega)))
      have hMT := told_MI hM1 hG
      rw [mo hMT.tw.pn, if_pos e0, if_pos i1, hMT.tw.pn, if_pos (by rw [li, eq_n (by omega) (by omega)]; omega), cl_n (by omega), up_same, upd_same, up_ne _ _ _ (show (205 : Nat) ≠ 227 by decide), hMT.tw.pn, nI_1]
      refine Kq_mk hC1 (MI_T hMT hG (MT_P hMT.tw (GT_bd hG.t) (by rw [up_same, upd_same]) (fun k hk => ?_) (fun a k h1 h2 h3 => by rw [up_pt _ _ (by omega), up_pt _ _ (by omega)])) (fun a k h1 h2 h3 => by rw [up_pt _ _ (by unfold rT at h3; omega), up_pt _ _ (by unfold rT at h3; omega)])) (Fm_tr (Fm_tr (Fm_up _ _ (by omega)) (Fm_up _ _ (by omega))) (Fm_up _ _ (by omega))) (GI_T hG (GT_P hGT (by omega) (fun k hk => ?_)) rfl)
      · rw [up_ne _ _ _ (by omega), up_same, upd_at]
        by_cases ek : k = s.t.pn
        · rw [if_pos ek, ek, nu_same]
        · rw [if_neg ek, nu_ne _ _ ek]; exact hMT.tw.pr k (by omega)
      · by_cases ek : k = s.t.pn
        · rw [ek, nu_same]; omega
        · rw [nu_ne _ _ ek]; exact hG.t.pr k (by omega)
    · rw [if_neg (by rw [g45, li, lt_n (by omega) (by omega)]; exact hf)]
      refine ⟨_, M, rfl, rfl, ?_⟩
      rw [mo gm, if_pos e0, if_pos i1, if_neg (fun z => z (by rw [gm, show s.t.pn = 14 by omega]; rfl))]
      exact Kq_no hC hM hG
theorem p_sack {nS d c : Nat} {Mi M : am_M} {s : St} {x1 x2 : Int32} (hC : CI Mi M s) (hM : MI M s) (hG : GI c s) : prS nS (d + 12) c Mi 159 [.ref 16, .int x1, .int x2] 283 [.ref 205, .int x1, .int x2] M := by
  have h8 := hG.t.s8
  have g54 : M 54 3 = nI s.t.sn := hC.tw.sn
  have gm : am_up M 205 0 0 205 54 = nI s.t.sn := (told_MI hM hG).tw.sn
  have hGT := GT_mono hG.t (show c ≤ c + 1 by omega)
  have mo : ∀ {M : am_M} {Q : Option Value → am_H → Prop}, am_up M 205 0 0 205 54 = nI s.t.sn → am_Wp (d + 12) 283 0 [.ref 205, .int x1, .int x2] [] (hp nS M) Q = _ := fun gm => c_283 (fun _ _ _ h => by rw [gm] at h ⊢; rw [li, eq_n (by omega) (by omega)] at h; exact in_n (by omega) (by omega)) (fun _ _ _ h => by rw [up_ne _ _ _ (show (205 : Nat) ≠ 234 by decide)]; rw [gm] at h ⊢; rw [li, eq_n (by omega) (by omega)] at h; exact in_n (by omega) (by omega))
  unfold prS
  rw [c_159 (fun _ _ _ h => by rw [g54] at h ⊢; rw [li, lt_n (by omega) (by omega)] at h; exact in_n (by omega) (by omega)) (fun _ _ _ h => by rw [up_ne _ _ _ (show (54 : Nat) ≠ 56 by decide)]; rw [g54] at h ⊢; rw [li, lt_n (by omega) (by omega)] at h; exact in_n (by omega) (by omega))]
  by_cases e0 : x1 = -1
  · rw [if_neg (fun z => z e0)]
    refine ⟨_, _, rfl, rfl, ?_⟩
    have hC1 : CI Mi (am_up M 54 3 0) (sT s (tS s.t 0 s.t.sw s.t.sv)) := CI_T hC (CT_S hC.tw (by omega) (by rw [up_same, upd_same]; rfl) (fun k hk => by omega) (fun k hk => by omega) (fun a k h1 h2 h3 h4 => up_pt _ _ (by omega))) rfl (fun a k h1 h2 h3 => up_pt _ _ (by omega))
    have hM1 : MI (am_up M 54 3 0) s := MI_fr hM hG (Fc_up _ _ (by omega))
    have hMT := told_MI hM1 hG
    rw [mo hMT.tw.sn, if_neg (fun z => z e0)]
    refine Kq_mk hC1 (MI_T hMT hG (MT_S hMT.tw (GT_bd hG.t) (by rw [up_same, upd_same]; rfl) (fun k hk => by omega) (fun k hk => by omega) (fun a k h1 h2 h3 => up_pt _ _ (by omega))) (fun a k h1 h2 h3 => up_pt _ _ (by unfold rT at h3; omega))) (Fm_tr (Fm_up _ _ (by omega)) (Fm_up _ _ (by omega))) (GI_T hG (GT_S hGT (by omega) (fun k hk => by omega) (fun k hk => by omega)) rfl)
  rw [if_pos e0]
  rcases rng x1 1 30 1 30 rfl rfl (by omega) (by omega) with ⟨o1, i1⟩ | ⟨o1, i1, n, rfl, n1, n2⟩
  · rw [if_pos o1]
    refine ⟨_, M, rfl, rfl, ?_⟩
    rw [mo gm, if_pos e0, if_neg i1]
    exact Kq_no hC hM hG
  rw [if_neg o1]
  rcases rng x2 1 99 1 99 rfl rfl (by omega) (by omega) with ⟨o2, i2⟩ | ⟨o2, i2, w, rfl, w1, w2⟩
  · rw [if_pos o2]
    refine ⟨_, M, rfl, rfl, ?_⟩
    rw [mo gm, if_pos e0, if_pos i1, if_neg i2]
    exact Kq_no hC hM hG
  rw [if_neg o2]
  by_cases hf : s.t.sn < 8
  · have u1 : am_up M 56 s.t.sn (nI n) 54 3 = nI s.t.sn := by rw [up_ne _ _ _ (by decide), g54]
    rw [if_pos (by rw [g54, li, lt_n (by omega) (by omega)]; exact hf), g54, cl_n (by omega), u1, cl_n (by omega), up_same, upd_same, up_ne _ _ _ (show (54 : Nat) ≠ 57 by decide), u1, nI_1]
    refine ⟨_, _, rfl, rfl, ?_⟩
    have hC1 : CI Mi (am_up (am_up (am_up M 56 s.t.sn (nI n)) 57 s.t.sn (nI w)) 54 3 (nI (s.t.sn + 1))) (sT s (tS s.t (s.t.sn + 1) (nu s.t.sw s.t.sn n) (nu s.t.sv s.t.sn w))) := by
      refine CI_T hC (CT_S hC.tw (by omega) (by rw [up_same, upd_same]) (fun k hk => ?_) (fun k hk => ?_) (fun a k h1 h2 h3 h4 => by rw [up_pt _ _ (by omega), up_pt _ _ (by omega), up_pt _ _ (by omega)])) rfl (fun a k h1 h2 h3 => by rw [up_pt _ _ (by omega), up_pt _ _ (by omega), up_pt _ _ (by omega)])
      · rw [up_ne _ _ _ (by omega), up_ne _ _ _ (by omega), up_same, upd_at]
        by_cases ek : k = s.t.sn
        · rw [if_pos ek, ek, nu_same]
        · rw [if_neg ek, nu_ne _ _ ek]; exact hC.tw.sw k (by omega)
      · rw [up_ne _ _ _ (by omega), up_same, upd_at]
        by_cases ek : k = s.t.sn
        · rw [if_pos ek, ek, nu_same]
        · rw [if_neg ek, nu_ne _ _ ek, up_ne _ _ _ (by omega)]; exact hC.tw.sv k (by omega)
    have hM1 : MI (am_up (am_up (am_up M 56 s.t.sn (nI n)) 57 s.t.sn (nI w)) 54 3 (nI (s.t.sn + 1))) s := MI_fr hM hG (Fc_tr (Fc_tr (Fc_up _ _ (by omega)) (Fc_up _ _ (by omega))) (Fc_up _ _ (by omega)))
    have hMT := told_MI hM1 hG
    generalize am_up (am_up (am_up M 56 s.t.sn (nI n)) 57 s.t.sn (nI w)) 54 3 (nI (s.t.sn + 1)) = M1 at *
    have gm1 := hMT.tw.sn
    have u2 : am_up (am_up M1 205 0 0) 234 s.t.sn (nI n) 205 54 = nI s.t.sn := by rw [up_ne _ _ _ (by decide), gm1]
    rw [mo hMT.tw.sn, if_pos e0, if_pos i1, if_pos i2, gm1, if_pos (by rw [li, eq_n (by omega) (by omega)]; omega), cl_n (by omega), u2, cl_n (by omega), up_same, upd_same, up_ne _ _ _ (show (205 : Nat) ≠ 235 by decide), u2, nI_1]
    refine Kq_mk hC1 (MI_T hMT hG (MT_S hMT.tw (GT_bd hG.t) (by rw [up_same, upd_same]) (fun k hk => ?_) (fun k hk => ?_) (fun a k h1 h2 h3 => by rw [up_pt _ _ (by omega), up_pt _ _ (by omega), up_pt _ _ (by omega)])) (fun a k h1 h2 h3 => by rw [up_pt _ _ (by unfold rT at h3; omega), up_pt _ _ (by unfold rT at h3; omega), up_pt _ _ (by unfold rT at h3; omega)])) (Fm_tr (Fm_tr (Fm_tr (Fm_up _ _ (by omega)) (Fm_up _ _ (by omega))) (Fm_up _ _ (by omega))) (Fm_up _ _ (by omega))) (GI_T hG (GT_S hGT (by omega) (fun k hk => ?_) (fun k hk => ?_)) rfl)
    · rw [up_ne _ _ _ (by omega), up_ne _ _ _ (by omega), up_same, upd_at]
      by_cases ek : k = s.t.sn
      · rw [if_pos ek, ek, nu_same]
      · rw [if_neg ek, nu_ne _ _ ek]; exact hMT.tw.sw k (by omega)
    · rw [up_ne _ _ _ (by omega), up_same, upd_at]
      by_cases ek : k = s.t.sn
      · rw [if_pos ek, ek, nu_same]
      · rw [if_neg ek, nu_ne _ _ ek, up_ne _ _ _ (by omega)]; exact hMT.tw.sv k (by omega)
    · by_cases ek : k = s.t.sn
      · rw [ek, nu_same]; omega
      · rw [nu_ne _ _ ek]; exact hG.t.sw k (by omega)
    · by_cases ek : k = s.t.sn
      · rw [ek, nu_same]; omega
      · rw [nu_ne _ _ ek]; exact hG.t.sv k (by omega)
  · rw [if_neg (by rw [g54, li, lt_n (by omega) (by omega)]; exact hf)]
    refine ⟨_, M, rfl, rfl, ?_⟩
    rw [mo gm, if_pos e0, if_pos i1, if_pos i2, if_neg (fun z => z (by rw [gm, show s.t.sn = 8 by omega]; rfl))]
    exact Kq_no hC hM hG
theorem p_change {nS d c : Nat} {Mi M : am_M} {s : St} {x1 x2 x3 : Int32} (hC : CI Mi M s) (hM : MI M s) (hG : GI c s) : prS nS (d + 12) c Mi 146 [.ref 16, .int x1, .int x2, .int x3] 264 [.ref 205, .int x1, .int x2, .int x3] M := by
  have hGT := GT_mono hG.t (show c ≤ c + 1 by omega)
  have i16 : ¬ (x1 < 0 ∨ ¬ x1 ≤ 3) → ¬ (x2 < 0 ∨ ¬ x2 ≤ 3) → vp_in ((x1 * 4) + x2) 16 := fun h1 h2 => by
    rcases rng x1 0 3 0 3 rfl rfl (by omega) (by omega) with ⟨o, _⟩ | ⟨_, _, a, rfl, a1, a2⟩
    · exact absurd o h1
    rcases rng x2 0 3 0 3 rfl rfl (by omega) (by omega) with ⟨o, _⟩ | ⟨_, _, b, rfl, b1, b2⟩
    · exact absurd o h2
    rw [mul4]; exact in_n (by omega) (by omega)
  have j16 : (¬ x1 < 0 ∧ ¬ 3 < x1) → (¬ x2 < 0 ∧ ¬ 3 < x2) → vp_in ((4 * x1) + x2) 16 := fun h1 h2 => by
    rcases rng x1 0 3 0 3 rfl rfl (by omega) (by omega) with ⟨_, o⟩ | ⟨_, _, a, rfl, a1, a2⟩
    · exact absurd h1 o
    rcases rng x2 0 3 0 3 rfl rfl (by omega) (by omega) with ⟨_, o⟩ | ⟨_, _, b, rfl, b1, b2⟩
    · exact absurd h2 o
    rw [mul4']; exact in_n (by omega) (by omega)
  have mo : ∀ {M : am_M} {Q : Option Value → am_H → Prop}, am_Wp (d + 12) 264 0 [.ref 205, .int x1, .int x2, .int x3] [] (hp nS M) Q = _ := c_264 (fun h1 h2 _ _ => j16 h1 h2) (fun h1 h2 _ _ _ _ => j16 h1 h2)
  unfold prS
  rw [c_146 (fun h1 h2 _ _ => i16 h1 h2) (fun h1 h2 _ _ _ _ => i16 h1 h2)]
  rcases rng x1 0 3 0 3 rfl rfl (by omega) (by omega) with ⟨o1, i1⟩ | ⟨o1, i1, a, rfl, a1, a2⟩
  · rw [if_pos o1]
    refine ⟨_, M, rfl, rfl, ?_⟩
    rw [mo, if_neg i1]
    exact Kq_no hC hM hG
  rw [if_neg o1]
  rcases rng x2 0 3 0 3 rfl rfl (by omega) (by omega) with ⟨o2, i2⟩ | ⟨o2, i2, b, rfl, b1, b2⟩
  · rw [if_pos o2]
    refine ⟨_, M, rfl, rfl, ?_⟩
    rw [mo, if_pos i1, if_neg i2]
    exact Kq_no hC hM hG
  rw [if_neg o2]
  by_cases hab : a = b
  · rw [if_neg (fun z => z (by rw [hab]))]
    refine ⟨_, M, rfl, rfl, ?_⟩
    rw [mo, if_pos i1, if_pos i2, if_neg (fun z => z (by rw [hab]))]
    exact Kq_no hC hM hG
  have nab : ¬ nI a = nI b := by rw [eq_n (by omega) (by omega)]; exact hab
  rw [if_pos nab]
  have put : ∀ n : Nat, x3 = nI n → n ≤ 99 → (¬ n = 0 → 1 ≤ n / 10 ∧ 1 ≤ n % 10) → (∀ M1, am_Wp (d + 12) 264 0 [.ref 205, .int (nI a), .int (nI b), .int x3] [] (hp nS M1) (Kq nS c Mi 1) = Kq nS c Mi 1 (some (.int 1)) (hp nS (am_up (am_up M1 205 0 0) 229 ((4 * nI a) + nI b).toNatClampNeg x3))) → ∃ v M1, some (Value.int 1) = some (Value.int v) ∧ hp nS (am_up M 55 ((nI a * 4) + nI b).toNatClampNeg x3) = hp nS M1 ∧ am_Wp (d + 12) 264 0 [.ref 205, .int (nI a), .int (nI b), .int x3] [] (hp nS M1) (Kq nS c Mi v) := by
    intro n hn n99 hnz hmo
    refine ⟨_, _, rfl, rfl, ?_⟩
    rw [hmo, mul4, mul4', cl_n (by omega), hn]
    have hC1 : CI Mi (am_up M 55 (4 * a + b) (nI n)) (sT s (tR s.t (nu s.t.rt (4 * a + b) n))) := by
      refine CI_T hC (CT_R hC.tw (by omega) (fun k hk => ?_) (fun a k h1 h2 h3 h4 => up_pt _ _ (by omega))) rfl (fun a k h1 h2 h3 => up_pt _ _ (by omega))
      rw [up_same, upd_at]
      by_cases ek : k = 4 * a + b
      · rw [if_pos ek, ek, nu_same]
      · rw [if_neg ek, nu_ne _ _ ek]; exact hC.tw.rt k hk
    have hM1 : MI (am_up M 55 (4 * a + b) (nI n)) s := MI_fr hM hG (Fc_up _ _ (by omega))
    have hMT := told_MI hM1 hG
    refine Kq_mk hC1 (MI_T hMT hG (MT_R hMT.tw (GT_bd hG.t) (fun k hk => ?_) (fun a k h1 h2 h3 => up_pt _ _ (by omega))) (fun a k h1 h2 h3 => up_pt _ _ (by unfold rT at h3; omega))) (Fm_tr (Fm_up _ _ (by omega)) (Fm_up _ _ (by omega))) (GI_T hG (GT_R hGT (fun k hk => ?_) (fun i hi => ?_)) rfl)
    · rw [up_same, upd_at]
      by_cases ek : k = 4 * a + b
      · rw [if_pos ek, ek, nu_same]
      · rw [if_neg ek, nu_ne _ _ ek]; exact hMT.tw.rt k hk
    · by_cases ek : k = 4 * a + b
      · rw [ek, nu_same]; exact ⟨n99, hnz⟩
      · rw [nu_ne _ _ ek]; exact hG.t.rt k hk
    · rw [nu_ne _ _ (by omega)]; exact hG.t.r0 i hi
  by_cases e3 : x3 = 0
  · rw [if_pos e3]
    exact put 0 e3 (by omega) (fun z => absurd rfl z) (fun M1 => by rw [mo, if_pos i1, if_pos i2, if_pos nab, if_pos e3])
  rw [if_neg e3]
  rcases rng x3 11 99 11 99 rfl rfl (by omega) (by omega) with ⟨o3, i3⟩ | ⟨o3, i3, n, rfl, n1, n2⟩
  · rw [if_pos o3]
    refine ⟨_, M, rfl, rfl, ?_⟩
    rw [mo, if_pos i1, if_pos i2, if_pos nab, if_neg e3, if_neg i3]
    exact Kq_no hC hM hG
  rw [if_neg o3]
  have er : nI n - nI n / 10 * 10 = nI (n % 10) := rem10 (by omega)
  by_cases e10 : n % 10 = 0
  · rw [if_neg (fun z => z (by rw [er, e10]; rfl))]
    refine ⟨_, M, rfl, rfl, ?_⟩
    rw [mo, if_pos i1, if_pos i2, if_pos nab, if_neg e3, if_pos i3, if_neg (fun z => z (by rw [er, e10]; rfl))]
    exact Kq_no hC hM hG
  · have ne10 : ¬ nI n - nI n / 10 * 10 = 0 := by rw [er]; exact nI_ne0 (by omega) (by omega)
    rw [if_pos ne10]
    exact put n rfl n2 (fun _ => by omega) (fun M1 => by rw [mo, if_pos i1, if_pos i2, if_pos nab, if_neg e3, if_pos i3, if_pos ne10])
end
