section
theorem m_undoL {d nS n : Nat} {M : am_M} {Q : Option Value → am_H → Prop} (h5 : M 205 5 = nI n) (hn : n ≤ 5) (hQ : ∀ r : Rw, (∀ j, r j = if j < 136 then M 207 (136 * n + j) else M 206 j) → Q (some (.int 1)) (hp nS (am_row M 206 r))) : ∀ (m k : Nat) (r : Rw), k + m = 136 → (∀ j, r j = if j < k then M 207 (136 * n + j) else M 206 j) → am_Wp d 168 26 [.ref 205, .int (nI k)] [] (hp nS (am_row M 206 r)) Q := by
  have e5 : ∀ (r : Rw) k, (136 : Int32) * am_row M 206 r 205 5 + nI k = nI (136 * n + k) := fun r k => by rw [row_ne _ _ (by decide), h5, show (136 : Int32) * nI n = nI (136 * n) from pk_mul 136 n, nI_add]
  intro m
  induction m with
  | zero =>
    intro k r hk hr
    have : k = 136 := by omega
    subst this
    rw [b_168_26, if_pos (by decide), b_168_60]
    exact hQ r hr
  | succ m ih =>
    intro k r hk hr
    rw [b_168_26, if_neg (by rw [li, le_n (by omega) (by omega)]; omega), b_168_33 (by rw [e5]; exact in_n (by omega) (by omega)) (by first | exact in_n (by omega) (by omega) | (simp only [li, nI_add, pk_mul]; exact in_n (by omega) (by omega))), e5, cl_n (by omega), cl_n (by omega), up_row, row_ne _ _ (show (207 : Nat) ≠ 206 by decide), nI_1]
    refine ih (k + 1) _ (by omega) (fun j => ?_)
    rw [upd_at]
    by_cases e : j = k
    · rw [if_pos e, if_pos (by omega), e]
    · rw [if_neg e, hr j]
      by_cases e2 : j < k
      · rw [if_pos e2, if_pos (by omega)]
      · rw [if_neg e2, if_neg (by omega)]
theorem p_undo {nS d c : Nat} {Mi M : am_M} {s : St} (hC : CI Mi M s) (hM : MI M s) (hG : GI c s) : prS nS (d + 12) c Mi 163 [.ref 16] 168 [.ref 205, .retAddr 0] M := by
  have h6 := hG.n6
  have hq6 := hG.q6
  unfold prS
  rw [b_163_0, b_39_0, hC.pc]
  by_cases e0 : s.n = 0
  · rw [if_neg (fun z => z (by rw [e0]; rfl)), b_39_7, am_ans_some, b_163_14 rok0]
    refine ⟨_, M, rfl, rfl, ?_⟩
    rw [b_168_0, (told_MI hM hG).pc, if_neg (fun z => z (by rw [e0]; rfl)), b_168_12]
    exact Kq_no hC hM hG
  have fin : ∀ M', wcs 18 (115 + 12 * ((s.q + 5) % 6)) 11 (am_up (am_up M 113 1 (nI ((s.q + 5) % 6))) 113 2 (nI (s.n - 1))) M' → am_Wp (d + 10 + 1) 39 48 [.ref 113, .ref 18] [] (hp nS M') (fun v h1 => am_Wp (d + 11 + 1) 163 14 [.ref 16] (am_ans v []) h1 (fun o h => ∃ v M1, o = some (.int v) ∧ h = hp nS M1 ∧ am_Wp (d + 12) 168 0 [.ref 205, .retAddr 0] [] (hp nS M1) (Kq nS c Mi v))) := by
    intro M' h
    rw [b_39_48, am_ans_some, b_163_14 rok1]
    have e1 : ∀ a, a ≠ 113 → am_up (am_up M 113 1 (nI ((s.q + 5) % 6))) 113 2 (nI (s.n - 1)) a = M a := fun a h1 => by rw [up_ne _ _ _ h1, up_ne _ _ _ h1]
    have e2 : ∀ a, a ≠ 113 → ¬ (18 ≤ a ∧ a ≤ 29) → M' a = M a := fun a h1 h2 => (h.e a (by omega)).trans (e1 a h1)
    have f1 : M' 113 1 = nI ((s.q + 5) % 6) := by rw [h.e 113 (by omega), up_pt _ _ (by omega), up_same, upd_same]
    have f2 : M' 113 2 = nI (s.n - 1) := by rw [h.e 113 (by omega), up_same, upd_same]
    have hcw := hC.pw (s.n - 1) (by omega)
    rw [show (s.q + 6 - s.n + (s.n - 1)) % 6 = (s.q + 5) % 6 by omega] at hcw
    have hcw2 : CW 18 M' s.t.x (s.pw (s.n - 1)) := CW_cpy h (CW_of hcw (fun a h1 h2 => e1 a (by omega))) hG.t.G8
    have hC1 : CI Mi M' (sU s) := by
      refine ⟨CT_X hC.tw (by omega) hcw2 (fun a k h1 h2 h3 h4 => by rw [e2 a (by omega) (by omega)]), f2, f1, fun i hi => ?_, by rw [e2 187 (by omega) (by omega)]; exact hC.ln, by rw [e2 198 (by omega) (by omega)]; exact hC.tp, by rw [e2 187 (by omega) (by omega)]; exact hC.fk, by rw [e2 187 (by omega) (by omega)]; exact hC.fp, by rw [e2 16 (by omega) (by omega)]; exact hC.kp, fun hk => CT_of (hC.kt hk) (by omega) (fun a k h1 h2 h3 => by rw [e2 a (by omega) (by omega)]), fun a ha => by rw [e2 a (by omega) (by omega)]; exact hC.lo a ha⟩
      have hi : i < s.n - 1 := hi
      show CW (115 + 12 * (((s.q + 5) % 6 + 6 - (s.n - 1) + i) % 6)) M' s.t.x (s.pw i)
      rw [show ((s.q + 5) % 6 + 6 - (s.n - 1) + i) % 6 = (s.q + 6 - s.n + i) % 6 by omega]
      exact CW_of (hC.pw i (by omega)) (fun a h1 h2 => e2 a (by omega) (by omega))
    have hM1 : MI M' s := MI_fr hM hG (fun a ha => e2 a (by omega) (by omega))
    refine ⟨_, M', rfl, rfl, ?_⟩
    have hMT := told_MI hM1 hG
    have n1 : nI s.n - 1 = nI (s.n - 1) := sub1 (by omega)
    have hn0 : ¬ nI s.n = 0 := nI_ne0 (by omega) (by omega)
    have hF : Fm M' (am_up M' 205 0 0) := Fm_up _ _ (by omega)
    rw [b_168_0, hMT.pc, if_pos hn0, b_168_14, hMT.pc, n1]
    generalize am_up M' 205 0 0 = N at *
    have f5 : am_up N 205 5 (nI (s.n - 1)) 205 5 = nI (s.n - 1) := by rw [up_same, upd_same]
    have g7 : am_up N 205 5 (nI (s.n - 1)) 207 = N 207 := up_ne _ _ _ (by decide)
    have := m_undoL (d := d + 12) (nS := nS) (M := am_up N 205 5 (nI (s.n - 1))) (Q := Kq nS c Mi 1) f5 (by omega) (fun r hr => ?_) 136 0 (am_up N 205 5 (nI (s.n - 1)) 206) (by omega) (fun j => by rw [if_neg (by omega)])
    · rw [row_id] at this
      exact this
    · have g : ∀ a k, ¬ (a = 206 ∨ (a = 205 ∧ k = 5)) → am_row (am_up N 205 5 (nI (s.n - 1))) 206 r a k = N a k := fun a k h => by rw [row_pt _ _ _ (by omega), up_pt _ _ (by omega)]
      have gg : ∀ a k, a ≠ 206 → am_row (am_up N 205 5 (nI (s.n - 1))) 206 r a k = am_up N 205 5 (nI (s.n - 1)) a k := fun a k h => row_pt _ _ _ h
      have ga : ∀ a, a ≠ 206 → a ≠ 205 → am_row (am_up N 205 5 (nI (s.n - 1))) 206 r a = N a := fun a h1 h2 => funext fun k => g a k (by omega)
      have hW : ∀ k, k < 136 → am_row (am_up N 205 5 (nI (s.n - 1))) 206 r 206 k = s.pw (s.n - 1) k := fun k hk => by rw [row_same, hr, if_pos hk, g7]; exact hMT.pw _ (by omega) k hk
      have h5' : am_row (am_up N 205 5 (nI (s.n - 1))) 206 r 205 5 = nI (s.n - 1) := by rw [row_ne _ _ (by decide)]; exact f5
      have hFm : Fm N (am_row (am_up N 205 5 (nI (s.n - 1))) 206 r) := fun a ha => ga a (by omega) (by omega)
      generalize am_row (am_up N 205 5 (nI (s.n - 1))) 206 r = N2 at *
      have hX : MX N2 s.t.x := ⟨by rw [g _ _ (by omega)]; exact hMT.tw.mx.fL, by rw [g _ _ (by omega)]; exact hMT.tw.mx.fG, by rw [g _ _ (by omega)]; exact hMT.tw.mx.fT, fun k hk => by rw [g _ _ (by omega)]; exact hMT.tw.mx.vo k hk, fun k hk => by rw [g _ _ (by omega)]; exact hMT.tw.mx.ba k hk, fun k hk => by rw [g _ _ (by omega)]; exact hMT.tw.mx.up k hk⟩
      have hM2 : MI N2 (sU s) := ⟨MT_X (MTV_5 hMT.tw (GT_bd hG.t) (nI (s.n - 1))) (GT_bd hG.t) hW hX (fun a k h1 h2 h3 => gg a k (by omega)), h5', fun i hi k hk => by rw [ga 207 (by omega) (by omega)]; exact hMT.pw i (by have hi : i < s.n - 1 := hi; omega) k hk, by rw [g _ _ (by omega)]; exact hMT.th, by rw [g _ _ (by omega)]; exact hMT.ln, fun k hk => by rw [g _ _ (by omega)]; exact hMT.tp k hk, by rw [g _ _ (by omega)]; exact hMT.fk, by rw [g _ _ (by omega)]; exact hMT.fp, by rw [g _ _ (by omega)]; exact hMT.kp, fun hk => MTV_of (hMT.kt hk) (GT_bd (hG.kt hk)) (unp_of (ga 238 (by omega) (by omega))), fun k hk => by rw [g _ _ (by omega)]; exact hMT.wd k hk, fun k hk => by rw [g _ _ (by omega)]; exact hMT.t0 k hk, fun k hk => by rw [g _ _ (by omega)]; exact hMT.t1 k hk⟩
      have hG2 : GI (c + 1) (sU s) := ⟨GT_W (GT_mono hG.t (by omega)) (WG_mono (hG.pw (s.n - 1) (by omega)) (by omega)), (by show s.n - 1 ≤ 6; omega), Nat.mod_lt _ (by omega), fun i hi => WG_mono (hG.pw i (by have hi : i < s.n - 1 := hi; omega)) (by omega), hG.l4, hG.tp, fun hk => GT_mono (hG.kt hk) (by omega)⟩
      exact Kq_mk hC1 hM2 (Fm_tr hF hFm) hG2
  have q5 : nI s.q + 6 - 1 = nI (s.q + 5) := by
    rw [show nI s.q + 6 = nI (s.q + 6) from nI_add _ 6, sub1 (by omega)]; rfl
  have q6 : nI (s.q + 5) - nI (s.q + 5) / 6 * 6 = nI ((s.q + 5) % 6) := pk_rem (by omega) (by decide) (by decide)
  have n1 : nI s.n - 1 = nI (s.n - 1) := sub1 (by omega)
  have u2 : am_up M 113 1 (nI ((s.q + 5) % 6)) 113 2 = nI s.n := by rw [up_pt _ _ (by omega)]; exact hC.pc
  have u1 : am_up (am_up M 113 1 (nI ((s.q + 5) % 6))) 113 2 (nI (s.n - 1)) 113 1 = nI ((s.q + 5) % 6) := by rw [up_pt _ _ (by omega), up_same, upd_same]
  rw [if_pos (nI_ne0 (by omega) (by omega)), b_39_9 (by rw [hC.pq, q5, q6, u2, n1, u1]; exact in_n (Nat.mod_lt _ (by omega)) (by omega)), hC.pq, q5, q6, u2, n1, u1]
  have : (s.q + 5) % 6 = 0 ∨ (s.q + 5) % 6 = 1 ∨ (s.q + 5) % 6 = 2 ∨ (s.q + 5) % 6 = 3 ∨ (s.q + 5) % 6 = 4 ∨ (s.q + 5) % 6 = 5 := by omega
  rcases this with e | e | e | e | e | e
  · rw [e] at fin ⊢
    rw [if_pos (by decide), b_39_45]
    exact w_18_115 (fun M' h => by rw [am_ans_none]; exact fin M' h)
  · rw [e] at fin ⊢
    rw [if_neg (by decide), if_pos (by decide), b_39_45v1]
    exact w_18_127 (fun M' h => by rw [am_ans_none]; exact fin M' h)
  · rw [e] at fin ⊢
    rw [if_neg (by decide), if_neg (by decide), if_pos (by decide), b_39_45v2]
    exact w_18_139 (fun M' h => by rw [am_ans_none]; exact fin M' h)
  · rw [e] at fin ⊢
    rw [if_neg (by decide), if_neg (by decide), if_neg (by decide), if_pos (by decide), b_39_45v3]
    exact w_18_151 (fun M' h => by rw [am_ans_none]; exact fin M' h)
  · rw [e] at fin ⊢
    rw [if_neg (by decide), if_neg (by decide), if_neg (by decide), if_neg (by decide), if_pos (by decide), b_39_45v4]
    exact w_18_163 (fun M' h => by rw [am_ans_none]; exact fin M' h)
  · rw [e] at fin ⊢
    rw [if_neg (by decide), if_neg (by decide), if_neg (by decide), if_neg (by decide), if_neg (by decide), b_39_45v5]
    exact w_18_175 (fun M' h => by rw [am_ans_none]; exact fin M' h)
end
