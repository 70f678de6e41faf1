section
theorem eqM_sym {V V' : am_M} (e : eqM V V') : eqM V' V := ⟨e.f8.symm, e.f9.symm, e.f10.symm, e.f37.symm, e.f39.symm, e.f41.symm, e.f45.symm, e.f51.symm, e.f54.symm, e.r214.symm, fun k hk => (e.r206 k hk).symm, fun k hk => (e.r209 k hk).symm, fun k hk => (e.r210 k hk).symm, fun k hk => (e.r224 k hk).symm, fun k hk => (e.r232 k hk).symm, fun k hk => (e.r234 k hk).symm, fun k hk => (e.r235 k hk).symm, fun k hk => (e.r222 k hk).symm, fun k hk => (e.r223 k hk).symm, fun k hk => (e.r227 k hk).symm, fun k hk => (e.r229 k hk).symm, fun k hk => (e.r211 k hk).symm, fun k hk => (e.r215 k hk).symm, fun k hk => (e.r216 k hk).symm, fun k hk => (e.r217 k hk).symm, fun k hk => (e.r218 k hk).symm, fun k hk => (e.r219 k hk).symm, fun k hk => (e.r220 k hk).symm⟩
theorem MX_5 {M : am_M} {x : Cx} (h : MX M x) (v : Int32) : MX (am_up M 205 5 v) x := MX_of h (eqM_5 M v)
/-- the world anew, on both sides, and nothing to undo -/
theorem Kq_X {nS c : Nat} {Mi M1 M2 M6 : am_M} {s : St} {x : Cx} {W : Rw} {v : Int32} (hC1 : CI Mi M1 (sT0 s (tX s.t x W))) (hMT : MI M2 s) (hG : GI c s) (hF : Fm M1 M2) (hW : ∀ k, k < 136 → M6 206 k = W k) (hX : MX M6 x) (hx : ∀ a k, ¬ (a = 206 ∨ (a = 205 ∧ (k = 8 ∨ k = 9 ∨ k = 10 ∨ k = 5)) ∨ a = 209 ∨ a = 210 ∨ a = 224) → M6 a k = M2 a k) (h5 : M6 205 5 = 0) (hGT : GT (c + 1) (tX s.t x W)) : Kq nS c Mi v (some (.int v)) (hp nS M6) := by
  have h1 : MTV (am_up M6 205 5 (M2 205 5)) (tX s.t x W) := MT_X hMT.tw (GT_bd hG.t) (fun k hk => by rw [up_ne _ _ _ (by decide)]; exact hW k hk) (MX_5 hX _) (fun a k q1 q2 q3 => by
    by_cases e5 : a = 205 ∧ k = 5
    · rw [e5.1, e5.2, up_same, upd_same]
    · rw [up_pt _ _ e5]; exact hx a k (by omega))
  have h2 : MTV M6 (tX s.t x W) := MTV_of h1 (bd_X (GT_bd hG.t)) (eqM_sym (eqM_5 M6 _))
  exact Kq_mk hC1 (MI_T0 hMT hG h2 h5 (fun a k q1 q2 q3 q4 => hx a k (by unfold rT at q3; omega))) (fun a ha => funext fun k => by rw [hx a k (by omega), hF a ha]) (GI_T0 hG hGT)
theorem CW_xG {w : Nat} {M : am_M} {x : Cx} {W : Rw} (h : CW w M x W) (hG : x.G < 8) (h0 : x.up x.G = 0) (v : Int32) : CW w (am_up (am_up (am_up (am_up M (w + 6) x.G v) (w + 7) x.G (-1)) (w + 8) x.G v) w 1 (nI (x.G + 1))) (xG x v) (upd W (28 + x.G) v) := by
  have e : ∀ a k, ¬ (a = w ∧ k = 1) → a ≠ w + 6 → a ≠ w + 7 → a ≠ w + 8 → am_up (am_up (am_up (am_up M (w + 6) x.G v) (w + 7) x.G (-1)) (w + 8) x.G v) w 1 (nI (x.G + 1)) a k = M a k := fun a k h1 h2 h3 h4 => by rw [up_pt _ _ h1, up_pt _ _ (by omega), up_pt _ _ (by omega), up_pt _ _ (by omega)]
  have u : ∀ j, j ≠ 28 + x.G → upd W (28 + x.G) v j = W j := fun j hj => upd_ne _ _ hj
  refine ⟨(e _ _ (by omega) (by omega) (by omega) (by omega)).trans h.fL, by rw [up_same, upd_same]; rfl, (e _ _ (by omega) (by omega) (by omega) (by omega)).trans h.fT, by rw [u _ (by omega)]; exact (e _ _ (by omega) (by omega) (by omega) (by omega)).trans h.wi, by rw [u _ (by omega)]; exact (e _ _ (by omega) (by omega) (by omega) (by omega)).trans h.da, by rw [u _ (by omega)]; exact (e _ _ (by omega) (by omega) (by omega) (by omega)).trans h.dr, by rw [u _ (by omega)]; exact (e _ _ (by omega) (by omega) (by omega) (by omega)).trans h.wr, fun k hk => (e _ _ (by omega) (by omega) (by omega) (by omega)).trans (h.vo k hk), fun k hk => by rw [u _ (by omega)]; exact (e _ _ (by omega) (by omega) (by omega) (by omega)).trans (h.he k hk), fun k hk => by rw [u _ (by omega)]; exact (e _ _ (by omega) (by omega) (by omega) (by omega)).trans (h.tp k hk), fun k hk => by rw [u _ (by omega)]; exact (e _ _ (by omega) (by omega) (by omega) (by omega)).trans (h.lo k hk), fun k hk => by rw [u _ (by omega)]; exact (e _ _ (by omega) (by omega) (by omega) (by omega)).trans (h.sc k hk), fun k hk => ?_, fun k hk => ?_, fun k hk => ?_, fun k hk => by rw [u _ (by omega)]; exact (e _ _ (by omega) (by omega) (by omega) (by omega)).trans (h.pu k hk), fun k hk => by rw [u _ (by omega)]; exact (e _ _ (by omega) (by omega) (by omega) (by omega)).trans (h.ru k hk), fun k hk => by rw [u _ (by omega)]; exact (e _ _ (by omega) (by omega) (by omega) (by omega)).trans (h.st k hk)⟩
  · rw [up_ne _ _ _ (by omega), up_ne _ _ _ (by omega), up_ne _ _ _ (by omega), up_same]
    show upd (M (w + 6)) x.G v k = upd x.base x.G v k
    rw [upd_at, upd_at]
    by_cases ek : k = x.G
    · rw [if_pos ek, if_pos ek]
    · rw [if_neg ek, if_neg ek]; exact h.ba k hk
  · have hk : k < x.G + 1 := hk
    rw [up_ne _ _ _ (by omega), up_ne _ _ _ (by omega), up_same, upd_at]
    show _ = nI (x.up k) - 1
    by_cases ek : k = x.G
    · rw [if_pos ek, ek, h0]; rfl
    · rw [if_neg ek, up_ne _ _ _ (by omega)]; exact h.bb k (by omega)
  · rw [up_ne _ _ _ (by omega), up_same, upd_at, upd_at]
    by_cases ek : k = x.G
    · rw [if_pos ek, if_pos (by omega)]
    · rw [if_neg ek, if_neg (by omega), up_ne _ _ _ (by omega), up_ne _ _ _ (by omega)]; exact h.pr k hk
theorem CW_xT {w : Nat} {M : am_M} {x : Cx} {W : Rw} (h : CW w M x W) (hT : x.T < 10) (v : Int32) : CW w (am_up (am_up M (w + 9) x.T v) w 2 (nI (x.T + 1))) (xT x) (upd W (36 + x.T) v) := by
  have h1 := CW_pu h hT v
  have e : ∀ a k, ¬ (a = w ∧ k = 2) → am_up (am_up M (w + 9) x.T v) w 2 (nI (x.T + 1)) a k = am_up M (w + 9) x.T v a k := fun a k h1 => up_pt _ _ h1
  exact ⟨(e _ _ (by omega)).trans h1.fL, (e _ _ (by omega)).trans h1.fG, by rw [up_same, upd_same]; rfl, (e _ _ (by omega)).trans h1.wi, (e _ _ (by omega)).trans h1.da, (e _ _ (by omega)).trans h1.dr, (e _ _ (by omega)).trans h1.wr, fun k hk => (e _ _ (by omega)).trans (h1.vo k hk), fun k hk => (e _ _ (by omega)).trans (h1.he k hk), fun k hk => (e _ _ (by omega)).trans (h1.tp k hk), fun k hk => (e _ _ (by omega)).trans (h1.lo k hk), fun k hk => (e _ _ (by omega)).trans (h1.sc k hk), fun k hk => (e _ _ (by omega)).trans (h1.ba k hk), fun k hk => (e _ _ (by omega)).trans (h1.bb k hk), fun k hk => (e _ _ (by omega)).trans (h1.pr k hk), fun k hk => (e _ _ (by omega)).trans (h1.pu k hk), fun k hk => (e _ _ (by omega)).trans (h1.ru k hk), fun k hk => (e _ _ (by omega)).trans (h1.st k hk)⟩
theorem m_goodZ {d nS G : Nat} {x1 : Int32} {M0 : am_M} {W : Rw} {Q : Option Value → am_H → Prop} (hG : G < 8) (g9 : M0 205 9 = nI G) (hz : ∀ t, t < 10 → W (56 + (8 * t + G)) = 0) (hQ : ∀ M', KZ M0 M' W → am_Wp (d + 1) 172 79 [.ref 205, .int x1, .int 10] [] (hp nS M') Q) : ∀ (m t : Nat) (M : am_M), t + m = 10 → KZ M0 M W → am_Wp (d + 1) 172 52 [.ref 205, .int x1, .int (nI t)] [] (hp nS M) Q := by
  intro m
  induction m with
  | zero =>
    intro t M ht h
    have : t = 10 := by omega
    subst this
    rw [b_172_52, if_pos (by decide)]
    exact hQ M h
  | succ m ih =>
    intro t M ht h
    have g : M 205 9 = nI G := by rw [h.2 205 (by decide)]; exact g9
    rw [b_172_52, if_neg (by rw [li, le_n (by omega) (by omega)]; omega), b_172_58, g, c_173, st_at, am_ans_some, b_172_71 (by first | exact in_n (by omega) (by omega) | (simp only [li, nI_add, pk_mul]; exact in_n (by omega) (by omega))), cl_n (by omega), nI_1]
    exact ih (t + 1) _ (by omega) (KZ_0 h (hz t (by omega)))
theorem m_tradZ {d nS T : Nat} {x1 : Int32} {M0 : am_M} {W : Rw} {Q : Option Value → am_H → Prop} (hT : T < 10) (g9 : M0 205 10 = nI T) (hz : ∀ g, g < 8 → W (56 + (8 * T + g)) = 0) (hQ : ∀ M', KZ M0 M' W → am_Wp (d + 1) 174 83 [.ref 205, .int x1, .int 8] [] (hp nS M') Q) : ∀ (m t : Nat) (M : am_M), t + m = 8 → KZ M0 M W → am_Wp (d + 1) 174 56 [.ref 205, .int x1, .int (nI t)] [] (hp nS M) Q := by
  intro m
  induction m with
  | zero =>
    intro t M ht h
    have : t = 8 := by omega
    subst this
    rw [b_174_56, if_pos (by decide)]
    exact hQ M h
  | succ m ih =>
    intro t M ht h
    have g : M 205 10 = nI T := by rw [h.2 205 (by decide)]; exact g9
    rw [b_174_56, if_neg (by rw [li, le_n (by omega) (by omega)]; omega), b_174_62, g, c_173, st_at, am_ans_some, b_174_75 (by first | exact in_n (by omega) (by omega) | (simp only [li, nI_add, pk_mul]; exact in_n (by omega) (by omega))), cl_n (by omega), nI_1]
    exact ih (t + 1) _ (by omega) (KZ_0 h (hz t (by omega)))
theorem p_good {nS d c : Nat} {Mi M : am_M} {s : St} {x1 : Int32} (hC : CI Mi M s) (hM : MI M s) (hG : GI c s) : prS nS (d + 12) c Mi 126 [.ref 16, .int x1, .retAddr 0, .retAddr 0] 172 [.ref 205, .int x1, .retAddr 0] M := by
  have hGT := GT_mono hG.t (show c ≤ c + 1 by omega)
  have hL := hG.t.G8
  have g18 : M 18 1 = nI s.t.x.G := hC.tw.w.fG
  have i8 : M 18 1 < 8 → vp_in (M 18 1) 8 := fun h => by rw [g18] at h ⊢; rw [li, lt_n (by omega) (by omega)] at h; exact in_n h (by omega)
  unfold prS
  rw [c_126 (fun _ h => i8 h) (fun _ h => i8 h) (fun _ h => i8 h)]
  rcases rng x1 1 99 1 99 rfl rfl (by omega) (by omega) with ⟨o1, i1⟩ | ⟨o1, i1, n, rfl, n1, n2⟩
  · rw [if_pos o1]
    refine ⟨_, M, rfl, rfl, ?_⟩
    rw [b_172_0, c_171, am_ans_some, b_172_13, ite0_f i1, b_172_25]
    exact Kq_no hC hM hG
  rw [if_neg o1]
  by_cases hf : s.t.x.G < 8
  · have hu0 := hG.t.u0 s.t.x.G hf (Nat.le_refl _)
    rw [if_pos (by rw [g18, li, lt_n (by omega) (by omega)]; exact hf), g18, cl_n (by omega), nI_1]
    refine ⟨_, _, rfl, rfl, ?_⟩
    have hC1 : CI Mi (am_up (am_up (am_up (am_up (am_up M 24 s.t.x.G (nI n)) 25 s.t.x.G (-1)) 26 s.t.x.G (nI n)) 18 1 (nI (s.t.x.G + 1))) 113 2 0) (sT0 s (tX s.t (xG s.t.x (nI n)) (upd s.t.W (28 + s.t.x.G) (nI n)))) := CI_T0 hC (CT_X hC.tw (by omega) (CW_of (CW_xG hC.tw.w hf hu0 (nI n)) (fun a h1 h2 => up_ne _ _ _ (by omega))) (fun a k h1 h2 h3 h4 => by rw [up_pt _ _ (by omega), up_pt _ _ (by omega), up_pt _ _ (by omega), up_pt _ _ (by omega), up_pt _ _ (by omega)])) (by rw [up_same, upd_same]) (fun a k h1 h2 h3 h4 => by rw [up_pt _ _ (by omega), up_pt _ _ (by omega), up_pt _ _ (by omega), up_pt _ _ (by omega), up_pt _ _ (by omega)])
    have hM1 : MI (am_up (am_up (am_up (am_up (am_up M 24 s.t.x.G (nI n)) 25 s.t.x.G (-1)) 26 s.t.x.G (nI n)) 18 1 (nI (s.t.x.G + 1))) 113 2 0) s := MI_fr hM hG (Fc_tr (Fc_tr (Fc_tr (Fc_tr (Fc_up _ _ (by omega)) (Fc_up _ _ (by omega))) (Fc_up _ _ (by omega))) (Fc_up _ _ (by omega))) (Fc_up _ _ (by omega)))
    have hMT := told_MI hM1 hG
    generalize am_up (am_up (am_up (am_up (am_up M 24 s.t.x.G (nI n)) 25 s.t.x.G (-1)) 26 s.t.x.G (nI n)) 18 1 (nI (s.t.x.G + 1))) 113 2 0 = M1 at *
    have gm := hMT.tw.mx.fG
    have hF : Fm M1 (am_up M1 205 0 0) := Fm_up _ _ (by omega)
    rw [b_172_0, c_171, am_ans_some, b_172_13, ite0_t i1]
    generalize am_up M1 205 0 0 = M2 at *
    have wz := hG.t.wg.z
    have gm' : am_up M2 210 s.t.x.G (nI n) 205 9 = nI s.t.x.G := by rw [up_ne _ _ _ (by decide)]; exact gm
    rw [b_172_16, if_pos (by rw [gm, li, eq_n (by omega) (by omega)]; omega), b_172_27 (by rw [gm]; exact in_n hf (by omega)) (by rw [gm, cl_n (by omega), gm', adl]; exact in_n (by omega) (by omega)), gm, cl_n (by omega), gm', adl, cl_n (by omega)]
    have k0 : KZ (am_up (am_up M2 210 s.t.x.G (nI n)) 206 (28 + s.t.x.G) (nI n)) (am_up (am_up M2 210 s.t.x.G (nI n)) 206 (28 + s.t.x.G) (nI n)) (upd s.t.W (28 + s.t.x.G) (nI n)) := ⟨fun k hk => by
      rw [up_same, upd_at, upd_at]
      by_cases ek : k = 28 + s.t.x.G
      · rw [if_pos ek, if_pos ek]
      · rw [if_neg ek, if_neg ek, up_ne _ _ _ (by decide)]; exact hMT.tw.w k hk, fun _ _ => rfl⟩
    refine m_goodZ (d := d + 11) hf (by rw [up_ne _ _ _ (by decide)]; exact gm') (fun t ht => by rw [upd_ne _ _ (by omega)]; exact wz.st t s.t.x.G ht hf (Or.inr (Nat.le_refl _))) (fun M6 h6 => ?_) 10 0 _ (by omega) k0
    have g6 : M6 205 9 = nI s.t.x.G := by rw [h6.2 205 (by decide), up_ne _ _ _ (by decide)]; exact gm'
    rw [b_172_79, g6, nI_1, up_pt _ _ (by omega), up_same, upd_same, sub1 (by omega)]
    have hx : ∀ a k, a ≠ 206 → a ≠ 210 → M6 a k = M2 a k := fun a k q1 q2 => by rw [h6.2 a q1, up_pt _ _ (by omega), up_pt _ _ (by omega)]
    refine Kq_X hC1 hMT hG hF (fun k hk => by rw [up_ne _ _ _ (by decide), up_ne _ _ _ (by decide)]; exact h6.1 k hk) ⟨?_, ?_, ?_, fun k hk => ?_, fun k hk => ?_, fun k hk => ?_⟩ (fun a k q => by rw [up_pt _ _ (by omega), up_pt _ _ (by omega)]; exact hx a k (by omega) (by omega)) (by rw [up_same, upd_same]) (GT_X hGT hG.t.L6 (by show s.t.x.G + 1 ≤ 8; omega) hG.t.T10 hG.t.up (fun g hg hg2 => hG.t.u0 g hg (by have : s.t.x.G + 1 ≤ g := hg2; omega)) hG.t.dk ⟨hG.t.tk.n16, hG.t.tk.wo, fun j hj => by show _ < s.t.x.G + 1; have := hG.t.tk.gd j hj; omega, hG.t.tk.mn, hG.t.tk.da⟩ ⟨⟨fun k hk => by rw [upd_ne _ _ (by omega)]; exact hGT.wg.ok.lo k hk, fun k hk => by rw [upd_ne _ _ (by omega)]; exact hGT.wg.ok.ru k hk, fun k hk => ?_, fun k hk => by rw [upd_ne _ _ (by omega)]; exact hGT.wg.ok.st k hk, fun k hk => by rw [upd_ne _ _ (by omega)]; exact hGT.wg.ok.pu k hk, by obtain ⟨q, q1, q2⟩ := hGT.wg.ok.wr; exact ⟨q, by rw [upd_ne _ _ (by omega)]; exact q1, q2⟩⟩, ⟨fun k q1 q2 => by rw [upd_ne _ _ (by omega)]; exact wz.h k q1 q2, fun k q1 q2 => by rw [upd_ne _ _ (by omega)]; exact wz.t k q1 q2, fun k q1 q2 => by rw [upd_ne _ _ (by omega)]; exact wz.l k q1 q2, fun k q1 q2 => by rw [upd_ne _ _ (by omega)]; exact wz.s k q1 q2, fun k q1 q2 => by rw [upd_ne _ _ (by omega)]; exact wz.r k q1 q2, fun t g q1 q2 q3 => by rw [upd_ne _ _ (by omega)]; exact wz.st t g q1 q2 (q3.elim Or.inl (fun q => Or.inr (by have : s.t.x.G + 1 ≤ g := q; omega)))⟩, by obtain ⟨q, q1, q2⟩ := hGT.wg.d; exact ⟨q, by rw [upd_ne _ _ (by omega)]; exact q1, q2⟩⟩)
    · rw [up_pt _ _ (by omega), up_pt _ _ (by omega), hx _ _ (by omega) (by omega)]; exact hMT.tw.mx.fL
    · rw [up_pt _ _ (by omega), up_same, upd_same]; rfl
    · rw [up_pt _ _ (by omega), up_pt _ _ (by omega), hx _ _ (by omega) (by omega)]; exact hMT.tw.mx.fT
    · rw [up_pt _ _ (by omega), up_pt _ _ (by omega), hx _ _ (by omega) (by omega)]; exact hMT.tw.mx.vo k hk
    · rw [up_pt _ _ (by omega), up_pt _ _ (by omega), h6.2 _ (by decide), up_ne _ _ _ (by decide), up_same]
      show upd (M2 210) s.t.x.G (nI n) k = upd s.t.x.base s.t.x.G (nI n) k
      rw [upd_at, upd_at]
      by_cases ek : k = s.t.x.G
      · rw [if_pos ek, if_pos ek]
      · rw [if_neg ek, if_neg ek]; exact hMT.tw.mx.ba k hk
    · rw [up_pt _ _ (by omega), up_pt _ _ (by omega), hx _ _ (by omega) (by omega)]; exact hMT.tw.mx.up k hk
    · have hk : k < s.t.x.G + 1 := hk
      rw [upd_at]
      by_cases ek : k = s.t.x.G
      · rw [if_pos (by omega)]; exact ⟨n, rfl, n1, by omega⟩
      · rw [if_neg (by omega)]; exact hGT.wg.ok.pr k (by omega)
  · rw [if_neg (by rw [g18, li, lt_n (by omega) (by omega)]; exact hf)]
    refine ⟨_, M, rfl, rfl, ?_⟩
    rw [b_172_0, c_171, am_ans_some, b_172_13, ite0_t i1, b_172_16, if_neg (fun z => z (by rw [(told_MI hM hG).tw.mx.fG, show s.t.x.G = 8 by omega]; rfl)), b_172_25]
    exact Kq_no hC hM hG
theorem p_trader {nS d c : Nat} {Mi M : am_M} {s : St} {x1 : Int32} (hC : CI Mi M s) (hM : MI M s) (hG : GI c s) : prS nS (d + 12) c Mi 127 [.ref 16, .int x1, .retAddr 0, .retAddr 0] 174 [.ref 205, .int x1, .retAddr 0] M := by
  have hGT := GT_mono hG.t (show c ≤ c + 1 by omega)
  have hL := hG.t.T10
  have g18 : M 18 2 = nI s.t.x.T := hC.tw.w.fT
  unfold prS
  rw [c_127 (fun _ h => by rw [g18] at h ⊢; rw [li, lt_n (by omega) (by omega)] at h; exact in_n h (by omega))]
  rcases rng x1 0 9999 0 9999 rfl rfl (by omega) (by omega) with ⟨o1, i1⟩ | ⟨o1, i1, n, rfl, n1, n2⟩
  · rw [if_pos o1]
    refine ⟨_, M, rfl, rfl, ?_⟩
    rw [b_174_0, c_171, am_ans_some, b_174_14, ite0_f i1, b_174_26]
    exact Kq_no hC hM hG
  rw [if_neg o1]
  by_cases hf : s.t.x.T < 10
  · rw [if_pos (by rw [g18, li, lt_n (by omega) (by omega)]; exact hf), g18, cl_n (by omega), nI_1]
    refine ⟨_, _, rfl, rfl, ?_⟩
    have hC1 : CI Mi (am_up (am_up (am_up M 27 s.t.x.T (nI n)) 18 2 (nI (s.t.x.T + 1))) 113 2 0) (sT0 s (tX s.t (xT s.t.x) (upd s.t.W (36 + s.t.x.T) (nI n)))) := CI_T0 hC (CT_X hC.tw (by omega) (CW_of (CW_xT hC.tw.w hf (nI n)) (fun a h1 h2 => up_ne _ _ _ (by omega))) (fun a k h1 h2 h3 h4 => by rw [up_pt _ _ (by omega), up_pt _ _ (by omega), up_pt _ _ (by omega)])) (by rw [up_same, upd_same]) (fun a k h1 h2 h3 h4 => by rw [up_pt _ _ (by omega), up_pt _ _ (by omega), up_pt _ _ (by omega)])
    have hM1 : MI (am_up (am_up (am_up M 27 s.t.x.T (nI n)) 18 2 (nI (s.t.x.T + 1))) 113 2 0) s := MI_fr hM hG (Fc_tr (Fc_tr (Fc_up _ _ (by omega)) (Fc_up _ _ (by omega))) (Fc_up _ _ (by omega)))
    have hMT := told_MI hM1 hG
    generalize am_up (am_up (am_up M 27 s.t.x.T (nI n)) 18 2 (nI (s.t.x.T + 1))) 113 2 0 = M1 at *
    have gm := hMT.tw.mx.fT
    have hF : Fm M1 (am_up M1 205 0 0) := Fm_up _ _ (by omega)
    rw [b_174_0, c_171, am_ans_some, b_174_14, ite0_t i1]
    generalize am_up M1 205 0 0 = M2 at *
    have wz := hG.t.wg.z
    have gm' : am_up M2 206 (36 + s.t.x.T) (nI n) 205 10 = nI s.t.x.T := by rw [up_ne _ _ _ (by decide)]; exact gm
    rw [b_174_17, if_pos (by rw [gm, li, eq_n (by omega) (by omega)]; omega), b_174_28 (by rw [gm, adl]; exact in_n (by omega) (by omega)) (by rw [gm, adl, cl_n (by omega), gm', adl]; exact in_n (by omega) (by omega)), gm, adl, cl_n (by omega), gm', adl, cl_n (by omega)]
    have k1 : KZ (am_up M2 206 (36 + s.t.x.T) (nI n)) (am_up M2 206 (36 + s.t.x.T) (nI n)) (upd s.t.W (36 + s.t.x.T) (nI n)) := ⟨fun k hk => by
      rw [up_same, upd_at, upd_at]
      by_cases ek : k = 36 + s.t.x.T
      · rw [if_pos ek, if_pos ek]
      · rw [if_neg ek, if_neg ek]; exact hMT.tw.w k hk, fun _ _ => rfl⟩
    have k0 := KZ_0 k1 (j := 46 + s.t.x.T) (by rw [upd_ne _ _ (by omega)]; exact wz.r _ hf (Nat.le_refl _))
    refine m_tradZ (d := d + 11) (M0 := am_up M2 206 (36 + s.t.x.T) (nI n)) hf gm' (fun g hg => by rw [upd_ne _ _ (by omega)]; exact wz.st s.t.x.T g hf hg (Or.inl (Nat.le_refl _))) (fun M6 h6 => ?_) 8 0 _ (by omega) k0
    have g6 : M6 205 10 = nI s.t.x.T := by rw [h6.2 205 (by decide)]; exact gm'
    rw [b_174_83, g6, nI_1, up_pt _ _ (by omega), up_same, upd_same, sub1 (by omega)]
    have hx : ∀ a k, a ≠ 206 → M6 a k = M2 a k := fun a k q1 => by rw [h6.2 a q1, up_pt _ _ (by omega)]
    have hpn : n ≤ 9999 + 1582416 * (c + 1) := Nat.le_trans n2 (Nat.le_add_right _ _)
    have hpp : ∃ m, nI n = nI m ∧ m ≤ 9999 + 1582416 * (c + 1) := ⟨n, rfl, hpn⟩
    have hok := hGT.wg.ok
    have hok2 := WOk_pu hok hf hpp hG.t.G8
    have hW' : WG (c + 1) s.t.x (upd s.t.W (36 + s.t.x.T) (nI n)) := ⟨hok2, ⟨fun k q1 q2 => by rw [upd_ne _ _ (by omega)]; exact wz.h k q1 q2, fun k q1 q2 => by rw [upd_ne _ _ (by omega)]; exact wz.t k q1 q2, fun k q1 q2 => by rw [upd_ne _ _ (by omega)]; exact wz.l k q1 q2, fun k q1 q2 => by rw [upd_ne _ _ (by omega)]; exact wz.s k q1 q2, fun k q1 q2 => by rw [upd_ne _ _ (by omega)]; exact wz.r k q1 q2, fun t g q1 q2 q3 => by rw [upd_ne _ _ (by omega)]; exact wz.st t g q1 q2 q3⟩, by obtain ⟨q, q1, q2⟩ := hGT.wg.d; exact ⟨q, by rw [upd_ne _ _ (by omega)]; exact q1, q2⟩⟩
    refine Kq_X hC1 hMT hG hF (fun k hk => by rw [up_ne _ _ _ (by decide), up_ne _ _ _ (by decide)]; exact h6.1 k hk) ⟨?_, ?_, ?_, fun k hk => ?_, fun k hk => ?_, fun k hk => ?_⟩ (fun a k q => by rw [up_pt _ _ (by omega), up_pt _ _ (by omega)]; exact hx a k (by omega)) (by rw [up_same, upd_same]) (GT_X hGT hG.t.L6 hG.t.G8 (by show s.t.x.T + 1 ≤ 10; omega) hG.t.up hG.t.u0 hG.t.dk ⟨hG.t.tk.n16, fun j hj => by show _ < s.t.x.T + 1; have := hG.t.tk.wo j hj; omega, hG.t.tk.gd, hG.t.tk.mn, hG.t.tk.da⟩ ⟨WOk_x hW'.ok (Nat.le_refl _), ⟨hW'.z.h, hW'.z.t, hW'.z.l, hW'.z.s, fun k q1 q2 => hW'.z.r k q1 (by have : s.t.x.T + 1 ≤ k := q2; omega), fun t g q1 q2 q3 => hW'.z.st t g q1 q2 (q3.elim (fun q => Or.inl (by have : s.t.x.T + 1 ≤ t := q; omega)) Or.inr)⟩, hW'.d⟩)
    · rw [up_pt _ _ (by omega), up_pt _ _ (by omega), hx _ _ (by omega)]; exact hMT.tw.mx.fL
    · rw [up_pt _ _ (by omega), up_pt _ _ (by omega), hx _ _ (by omega)]; exact hMT.tw.mx.fG
    · rw [up_pt _ _ (by omega), up_same, upd_same]; rfl
    · rw [up_pt _ _ (by omega), up_pt _ _ (by omega), hx _ _ (by omega)]; exact hMT.tw.mx.vo k hk
    · rw [up_pt _ _ (by omega), up_pt _ _ (by omega), hx _ _ (by omega)]; exact hMT.tw.mx.ba k hk
    · rw [up_pt _ _ (by omega), up_pt _ _ (by omega), hx _ _ (by omega)]; exact hMT.tw.mx.up k hk
  · rw [if_neg (by rw [g18, li, lt_n (by omega) (by omega)]; exact hf)]
    refine ⟨_, M, rfl, rfl, ?_⟩
    rw [b_174_0, c_171, am_ans_some, b_174_14, ite0_t i1, b_174_17, if_neg (fun z => z (by rw [(told_MI hM hG).tw.mx.fT, show s.t.x.T = 10 by omega]; rfl)), b_174_26]
    exact Kq_no hC hM hG
end
