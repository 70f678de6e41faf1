section
/-! THE IMAGE -/
theorem IK_t {k : Nat} {M0 M : am_M} (h : IK true k M0 M) {a q : Nat} (h1 : a ≠ 238) (h2 : ¬ (a = 205 ∧ (q = 59 ∨ q = 61))) : M a q = M0 a q := by
  by_cases c : ∃ j, j < k ∧ ad j = (a, q)
  · obtain ⟨j, hj, e⟩ := c
    have := h.r j hj
    rw [e, if_pos rfl] at this
    exact this
  · exact h.e a q h1 h2 (fun j hj z => c ⟨j, hj, z⟩)
theorem fin_a1 : (List.range 136).all (fun k => decide (ad k = (206, k))) = true := by decide +kernel
theorem ad_1 {k : Nat} (h : k < 136) : ad k = (206, k) := of_decide_eq_true (List.all_eq_true.mp fin_a1 k (List.mem_range.mpr h))
/-- where each cell of the town lies in the image -/
theorem ad_all : (ad 136 = (205, 8) ∧ ad 137 = (205, 9) ∧ ad 138 = (205, 10) ∧ ad 139 = (205, 37) ∧ ad 140 = (205, 39) ∧ ad 141 = (205, 41) ∧ ad 142 = (205, 45) ∧ ad 143 = (205, 51) ∧ ad 144 = (205, 54) ∧ ad 949 = (214, 0)) ∧ (∀ k, k < 6 → ad (145 + k) = (209, k)) ∧ (∀ k, k < 8 → ad (151 + 5 * k) = (210, k) ∧ ad (152 + 5 * k) = (224, k) ∧ ad (153 + 5 * k) = (232, k) ∧ ad (154 + 5 * k) = (234, k) ∧ ad (155 + 5 * k) = (235, k)) ∧ (∀ k, k < 64 → ad (191 + 2 * k) = (222, k) ∧ ad (192 + 2 * k) = (223, k)) ∧ (∀ k, k < 14 → ad (319 + k) = (227, k)) ∧ (∀ k, k < 16 → ad (333 + k) = (229, k)) ∧ (∀ k, k < 600 → ad (349 + k) = (211, k)) ∧ (∀ k, k < 16 → ad (950 + 4 * k) = (215, k) ∧ ad (951 + 4 * k) = (216, k) ∧ ad (952 + 4 * k) = (217, k) ∧ ad (953 + 4 * k) = (218, k)) ∧ (∀ k, k < 400 → ad (1014 + 2 * k) = (219, k) ∧ ad (1015 + 2 * k) = (220, k)) := by
  refine ⟨by decide, fun k hk => ?_, fun k hk => ?_, fun k hk => ?_, fun k hk => ?_, fun k hk => ?_, fun k hk => ?_, fun k hk => ?_, fun k hk => ?_⟩
  · have h := List.all_eq_true.mp fin_i_209 k (List.mem_range.mpr hk)
    simp only [decide_eq_true_eq, Nat.one_mul, Nat.add_zero] at h
    exact h
  · have h := List.all_eq_true.mp fin_i_210 k (List.mem_range.mpr hk)
    simp only [Bool.and_eq_true, decide_eq_true_eq, Nat.add_zero] at h
    obtain ⟨⟨⟨⟨h1, h2⟩, h3⟩, h4⟩, h5⟩ := h
    exact ⟨h1, by rw [show 152 + 5 * k = 151 + 5 * k + 1 by omega]; exact h2, by rw [show 153 + 5 * k = 151 + 5 * k + 2 by omega]; exact h3, by rw [show 154 + 5 * k = 151 + 5 * k + 3 by omega]; exact h4, by rw [show 155 + 5 * k = 151 + 5 * k + 4 by omega]; exact h5⟩
  · have h := List.all_eq_true.mp fin_i_222 k (List.mem_range.mpr hk)
    simp only [Bool.and_eq_true, decide_eq_true_eq, Nat.add_zero] at h
    exact ⟨h.1, by rw [show 192 + 2 * k = 191 + 2 * k + 1 by omega]; exact h.2⟩
  · have h := List.all_eq_true.mp fin_i_227 k (List.mem_range.mpr hk)
    simp only [decide_eq_true_eq, Nat.one_mul, Nat.add_zero] at h
    exact h
  · have h := List.all_eq_true.mp fin_i_229 k (List.mem_range.mpr hk)
    simp only [decide_eq_true_eq, Nat.one_mul, Nat.add_zero] at h
    exact h
  · have h := List.all_eq_true.mp fin_i_211 k (List.mem_range.mpr hk)
    simp only [decide_eq_true_eq, Nat.one_mul, Nat.add_zero] at h
    exact h
  · have h := List.all_eq_true.mp fin_i_215 k (List.mem_range.mpr hk)
    simp only [Bool.and_eq_true, decide_eq_true_eq, Nat.add_zero] at h
    obtain ⟨⟨⟨h1, h2⟩, h3⟩, h4⟩ := h
    exact ⟨h1, by rw [show 951 + 4 * k = 950 + 4 * k + 1 by omega]; exact h2, by rw [show 952 + 4 * k = 950 + 4 * k + 2 by omega]; exact h3, by rw [show 953 + 4 * k = 950 + 4 * k + 3 by omega]; exact h4⟩
  · have h := List.all_eq_true.mp fin_i_219 k (List.mem_range.mpr hk)
    simp only [Bool.and_eq_true, decide_eq_true_eq, Nat.add_zero] at h
    exact ⟨h.1, by rw [show 1015 + 2 * k = 1014 + 2 * k + 1 by omega]; exact h.2⟩
/-- a town that lies in the image, cell by cell -/
theorem unp_eq {V M : am_M} (e : ∀ j a q, j < 1814 → ad j = (a, q) → M 238 j = V a q) : eqM V (unp M) := by
  obtain ⟨⟨a1, a2, a3, a4, a5, a6, a7, a8, a9, a10⟩, b1, b2, b3, b4, b5, b6, b7, b8⟩ := ad_all
  exact ⟨by rw [unp_5_8]; exact e _ _ _ (by omega) a1, by rw [unp_5_9]; exact e _ _ _ (by omega) a2, by rw [unp_5_10]; exact e _ _ _ (by omega) a3, by rw [unp_5_37]; exact e _ _ _ (by omega) a4, by rw [unp_5_39]; exact e _ _ _ (by omega) a5, by rw [unp_5_41]; exact e _ _ _ (by omega) a6, by rw [unp_5_45]; exact e _ _ _ (by omega) a7, by rw [unp_5_51]; exact e _ _ _ (by omega) a8, by rw [unp_5_54]; exact e _ _ _ (by omega) a9, by rw [unp_214]; exact e _ _ _ (by omega) a10, fun k hk => by rw [unp_206]; exact e _ _ _ (by omega) (ad_1 hk), fun k hk => by rw [unp_209]; exact e _ _ _ (by omega) (b1 k hk), fun k hk => by rw [unp_210]; exact e _ _ _ (by omega) (b2 k hk).1, fun k hk => by rw [unp_224]; exact e _ _ _ (by omega) (b2 k hk).2.1, fun k hk => by rw [unp_232]; exact e _ _ _ (by omega) (b2 k hk).2.2.1, fun k hk => by rw [unp_234]; exact e _ _ _ (by omega) (b2 k hk).2.2.2.1, fun k hk => by rw [unp_235]; exact e _ _ _ (by omega) (b2 k hk).2.2.2.2, fun k hk => by rw [unp_222]; exact e _ _ _ (by omega) (b3 k hk).1, fun k hk => by rw [unp_223]; exact e _ _ _ (by omega) (b3 k hk).2, fun k hk => by rw [unp_227]; exact e _ _ _ (by omega) (b4 k hk), fun k hk => by rw [unp_229]; exact e _ _ _ (by omega) (b5 k hk), fun k hk => by rw [unp_211]; exact e _ _ _ (by omega) (b6 k hk), fun k hk => by rw [unp_215]; exact e _ _ _ (by omega) (b7 k hk).1, fun k hk => by rw [unp_216]; exact e _ _ _ (by omega) (b7 k hk).2.1, fun k hk => by rw [unp_217]; exact e _ _ _ (by omega) (b7 k hk).2.2.1, fun k hk => by rw [unp_218]; exact e _ _ _ (by omega) (b7 k hk).2.2.2, fun k hk => by rw [unp_219]; exact e _ _ _ (by omega) (b8 k hk).1, fun k hk => by rw [unp_220]; exact e _ _ _ (by omega) (b8 k hk).2⟩
def sI' (s : St) : St := (s.t, s.n, s.q, s.pw, s.len, s.tp, s.fk, s.fp, true, s.t)
theorem IK_0 (tk : Bool) (M : am_M) (hc : M 205 61 = nI 0) (ht : M 205 59 = bI tk) : IK tk 0 M M := ⟨hc, ht, fun j hj => absurd hj (Nat.not_lt_zero j), fun j hj => absurd hj (Nat.not_lt_zero j), fun _ => rfl, fun _ _ _ _ _ => rfl⟩
theorem fit_b (b : Bool) : am_fitI .boolean (bI b) = true := by cases b <;> rfl
theorem p_image {nS d c : Nat} {Mi M : am_M} {s : St} {b : Bool} (hC : CI Mi M s) (hM : MI M s) (hG : GI c s) : prS nS (d + 12) c Mi 164 [.ref 16, .int (bI b)] 290 [.ref 205, .int (bI b), .retAddr 0] M := by
  unfold prS
  rw [b_164_0]
  have st : ∀ (b : Bool) (N : am_M), am_up (am_up (am_up N 205 59 (bI b)) 205 60 1) 205 61 0 205 61 = nI 0 ∧ am_up (am_up (am_up N 205 59 (bI b)) 205 60 1) 205 61 0 205 59 = bI b ∧ am_up (am_up (am_up N 205 59 (bI b)) 205 60 1) 205 61 0 205 60 = 1 ∧ ∀ a k, ¬ (a = 205 ∧ (k = 59 ∨ k = 60 ∨ k = 61)) → am_up (am_up (am_up N 205 59 (bI b)) 205 60 1) 205 61 0 a k = N a k := by
    intro b N
    refine ⟨by rw [up_same, upd_same]; rfl, ?_, ?_, fun a k h => ?_⟩
    · rw [up_pt _ _ (by omega), up_pt _ _ (by omega), up_same, upd_same]
    · rw [up_pt _ _ (by omega), up_same, upd_same]
    · rw [up_pt _ _ (by omega), up_pt _ _ (by omega), up_pt _ _ (by omega)]
  cases b with
  | true =>
    rw [if_neg (by decide), b_164_4]
    refine t_take (d := d + 6) (u := s.t.l.u) hC.tw.lw.u hG.t.ok.u400 (fun M1 M2 hw he hc => ?_)
    rw [am_ans_none, b_164_15]
    have hct : CT 59 M2 s.t := CT_cpy (b1 := 17) (b2 := 59) (by omega) hC.tw (GT_bd hG.t) hG.t.w14 hG.t.G8 hw he hc
    have fr : ∀ a, ¬ (60 ≤ a ∧ a ≤ 100) → M2 a = M a := fun a ha => (he a (by omega)).trans (hw.e a (by omega))
    have f16 : am_up M2 16 6 1 16 6 = bI true := by rw [up_same, upd_same]; rfl
    have fr2 : ∀ a k, ¬ (60 ≤ a ∧ a ≤ 100) → ¬ (a = 16 ∧ k = 6) → am_up M2 16 6 1 a k = M a k := fun a k h1 h2 => by rw [up_pt _ _ h2, fr a h1]
    have hct2 : CT 59 (am_up M2 16 6 1) s.t := CT_of hct (by omega) (fun a k h1 h2 h3 => up_pt _ _ (by omega))
    generalize am_up M2 16 6 1 = M3 at *
    have r3 : ∀ a, a ≠ 16 → ¬ (60 ≤ a ∧ a ≤ 100) → M3 a = M a := fun a h1 h2 => funext fun k => fr2 a k h2 (by omega)
    have hC3 : CI Mi M3 (sI' s) := ⟨CT_of hC.tw (by omega) (fun a k h1 h2 h3 => fr2 a k (by omega) (by omega)), by rw [r3 113 (by omega) (by omega)]; exact hC.pc, by rw [r3 113 (by omega) (by omega)]; exact hC.pq, fun i hi => CW_of (hC.pw i hi) (fun a h1 h2 => r3 a (by omega) (by omega)), by rw [r3 187 (by omega) (by omega)]; exact hC.ln, by rw [r3 198 (by omega) (by omega)]; exact hC.tp, by rw [r3 187 (by omega) (by omega)]; exact hC.fk, by rw [r3 187 (by omega) (by omega)]; exact hC.fp, f16, fun _ => hct2, fun a ha => by rw [r3 a (by omega) (by omega)]; exact hC.lo a ha⟩
    have hM3 : MI M3 s := MI_fr hM hG (fun a ha => r3 a (by omega) (by omega))
    have hMT := told_MI hM3 hG
    refine ⟨_, M3, rfl, rfl, ?_⟩
    rw [b_290_0, if_pos (by decide), b_290_18 (fit_b true)]
    have hF : Fm M3 (am_up M3 205 0 0) := Fm_up _ _ (by omega)
    generalize am_up M3 205 0 0 = N at *
    obtain ⟨s1, s2, s3, s4⟩ := st true N
    generalize am_up (am_up (am_up N 205 59 (bI true)) 205 60 1) 205 61 0 = N0 at *
    refine m_img (d := d + 10) (IK_0 true N0 s1 s2) (fun N2 hK => ?_)
    rw [b_290_103, if_pos (by decide), b_290_112]
    have g : ∀ a k, a ≠ 238 → ¬ (a = 205 ∧ (k = 59 ∨ k = 60 ∨ k = 61)) → N2 a k = N a k := fun a k h1 h2 => (IK_t hK h1 (by omega)).trans (s4 a k h2)
    have g60 : N2 205 60 = bI true := (IK_t hK (by omega) (by omega)).trans s3
    have eq1 : eqM N N2 := ⟨g _ _ (by omega) (by omega), g _ _ (by omega) (by omega), g _ _ (by omega) (by omega), g _ _ (by omega) (by omega), g _ _ (by omega) (by omega), g _ _ (by omega) (by omega), g _ _ (by omega) (by omega), g _ _ (by omega) (by omega), g _ _ (by omega) (by omega), g _ _ (by omega) (by omega), fun k _ => g _ _ (by omega) (by omega), fun k _ => g _ _ (by omega) (by omega), fun k _ => g _ _ (by omega) (by omega), fun k _ => g _ _ (by omega) (by omega), fun k _ => g _ _ (by omega) (by omega), fun k _ => g _ _ (by omega) (by omega), fun k _ => g _ _ (by omega) (by omega), fun k _ => g _ _ (by omega) (by omega), fun k _ => g _ _ (by omega) (by omega), fun k _ => g _ _ (by omega) (by omega), fun k _ => g _ _ (by omega) (by omega), fun k _ => g _ _ (by omega) (by omega), fun k _ => g _ _ (by omega) (by omega), fun k _ => g _ _ (by omega) (by omega), fun k _ => g _ _ (by omega) (by omega), fun k _ => g _ _ (by omega) (by omega), fun k _ => g _ _ (by omega) (by omega), fun k _ => g _ _ (by omega) (by omega)⟩
    have hun : eqM N (unp N2) := unp_eq (fun j a q hj hja => by
      have hh := hK.i j hj
      rw [if_pos rfl, hja] at hh
      have hr := ad_rT hj
      rw [hja] at hr
      rw [hh, s4 a q (by have hr' : rT a q := hr; unfold rT at hr'; omega)])
    have hM2 : MI N2 (sI' s) := ⟨MTV_of hMT.tw (GT_bd hG.t) eq1, by rw [g _ _ (by omega) (by omega)]; exact hMT.pc, fun i hi k hk => by rw [g _ _ (by omega) (by omega)]; exact hMT.pw i hi k hk, by rw [g _ _ (by omega) (by omega)]; exact hMT.th, by rw [g _ _ (by omega) (by omega)]; exact hMT.ln, fun k hk => by rw [g _ _ (by omega) (by omega)]; exact hMT.tp k hk, by rw [g _ _ (by omega) (by omega)]; exact hMT.fk, by rw [g _ _ (by omega) (by omega)]; exact hMT.fp, g60, fun _ => MTV_of hMT.tw (GT_bd hG.t) hun, fun k hk => by rw [g _ _ (by omega) (by omega)]; exact hMT.wd k hk, fun k hk => by rw [g _ _ (by omega) (by omega)]; exact hMT.t0 k hk, fun k hk => by rw [g _ _ (by omega) (by omega)]; exact hMT.t1 k hk⟩
    have hG1 := GI_mono hG (show c ≤ c + 1 by omega)
    have hFm2 : Fm M3 N2 := Fm_tr hF (fun a ha => funext fun k => g a k (by omega) (by omega))
    exact Kq_mk hC3 hM2 hFm2 ⟨hG1.t, hG1.n6, hG1.q6, hG1.pw, hG1.l4, hG1.tp, fun _ => hG1.t⟩
  | false =>
    rw [if_pos (by decide), b_164_22, hC.kp]
    cases hkp : s.kept with
    | false =>
      rw [if_neg (by decide), b_164_29]
      refine ⟨_, M, rfl, rfl, ?_⟩
      have h60 : am_up M 205 0 0 205 60 = bI false := by rw [(told_MI hM hG).kp, hkp]
      rw [b_290_0, if_neg (by decide), b_290_9, h60, if_neg (by decide), b_290_16]
      exact Kq_no hC hM hG
    | true =>
      have hct0 := hC.kt hkp
      have hgk := hG.kt hkp
      rw [if_pos (by decide), b_164_31]
      refine t_back (d := d + 6) (u := s.tk.l.u) hct0.lw.u hgk.ok.u400 (fun M1 M2 hw he hc => ?_)
      rw [am_ans_none, b_164_42, c_37, am_ans_none, b_164_49]
      have hct : CT 17 M2 s.tk := CT_cpy (b1 := 59) (b2 := 17) (by omega) hct0 (GT_bd hgk) hgk.w14 hgk.G8 hw he hc
      have fr : ∀ a, ¬ (18 ≤ a ∧ a ≤ 58) → M2 a = M a := fun a ha => (he a (by omega)).trans (hw.e a (by omega))
      have hC3 : CI Mi (am_up M2 113 2 0) (sT0 s s.tk) := CI_T0 hC (CT_of hct (by omega) (fun a k h1 h2 h3 => up_pt _ _ (by omega))) (by rw [up_same, upd_same]) (fun a k h1 h2 h3 h4 => by rw [up_pt _ _ h3, fr a (by omega)])
      have hM3 : MI (am_up M2 113 2 0) s := MI_fr hM hG (fun a ha => by rw [up_ne _ _ _ (by omega)]; exact fr a (by omega))
      generalize am_up M2 113 2 0 = M3 at *
      have hMT := told_MI hM3 hG
      refine ⟨_, M3, rfl, rfl, ?_⟩
      have h60 : am_up M3 205 0 0 205 60 = bI true := by rw [hMT.kp, hkp]
      rw [b_290_0, if_neg (by decide), b_290_9, h60, if_pos (by decide), b_290_18 (fit_b false)]
      have hF : Fm M3 (am_up M3 205 0 0) := Fm_up _ _ (by omega)
      generalize am_up M3 205 0 0 = N at *
      obtain ⟨s1, s2, s3, s4⟩ := st false N
      generalize am_up (am_up (am_up N 205 59 (bI false)) 205 60 1) 205 61 0 = N0 at *
      refine m_img (d := d + 10) (IK_0 false N0 s1 s2) (fun N2 hK => ?_)
      rw [b_290_103, if_neg (by decide), b_290_107, b_290_112]
      have n238 : N0 238 = N 238 := funext fun k => s4 238 k (by omega)
      have hun : eqM N2 (unp N) := unp_eq (fun j a q hj hja => by
        have hh := hK.r j hj
        rw [if_neg (by decide), hja, n238] at hh
        exact hh.symm)
      have hmt : MTV N2 s.tk := MTV_of (hMT.kt hkp) (GT_bd hgk) (eqM_sym hun)
      have g : ∀ a k, a ≠ 238 → ¬ rT a k → ¬ (a = 205 ∧ (k = 59 ∨ k = 61)) → N2 a k = N a k := fun a k h1 h2 h3 => by
        rw [hK.e a k h1 (by omega) (fun j hj z => h2 (by have := ad_rT hj; rw [z] at this; exact this))]
        by_cases e : a = 205 ∧ k = 60
        · rw [e.1, e.2, s3, h60]; rfl
        · exact s4 a k (by omega)
      have g8 : N2 238 = N 238 := (hK.n rfl).trans n238
      have hM2 : MI (am_up N2 205 5 0) (sT0 s s.tk) := MI_T0 hMT hG (MTV_5 hmt (GT_bd hgk) 0) (by rw [up_same, upd_same]) (fun a k h1 h2 h3 h4 => by
        rw [up_pt _ _ h4]
        by_cases e8 : a = 238
        · rw [e8, g8]
        · exact g a k e8 h3 (by unfold sM at h2; omega))
      have hFm2 : Fm M3 (am_up N2 205 5 0) := Fm_tr hF (Fm_tr (fun a ha => funext fun k => g a k (by omega) (by unfold rT; omega) (by omega)) (Fm_up _ _ (by omega)))
      exact Kq_mk hC3 hM2 hFm2 (GI_T0 hG (GT_mono hgk (by omega)))
end
