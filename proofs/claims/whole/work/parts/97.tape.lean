section
/-! THE TAPE -/
def sR (s : St) (len : Nat) (tp : Nat → Nat) (fk fp : Int32) : St := (s.t, s.n, s.q, s.pw, len, tp, fk, fp, s.kept, s.tk)
theorem CI_R {Mi M M' : am_M} {s : St} {len : Nat} {tp : Nat → Nat} {fk fp : Int32} (h : CI Mi M s) (h0 : M' 187 0 = nI len) (h1 : ∀ k, k < len → M' 198 k = nI (tp k)) (h2 : M' 187 1 = fk) (h3 : M' 187 2 = fp) (e : ∀ a k, a < 205 → ¬ sC a k → ¬ (a = 187 ∨ a = 198) → M' a k = M a k) : CI Mi M' (sR s len tp fk fp) := by
  have r : ∀ a, a < 205 → (∀ k, ¬ sC a k) → ¬ (a = 187 ∨ a = 198) → M' a = M a := fun a h1 h2 h3 => funext fun k => e a k h1 (h2 k) h3
  refine ⟨CT_of h.tw (by omega) (fun a k h1 h2 h3 => e a k (by omega) (by unfold sC; omega) (by omega)), ?_, ?_, fun i hi => CW_of (h.pw i hi) (fun a h1 h2 => r a (by omega) (fun k => by unfold sC; omega) (by omega)), h0, h1, h2, h3, ?_, fun hk => CT_of (h.kt hk) (by omega) (fun a k h1 h2 h3 => e a k (by omega) (by unfold sC; omega) (by omega)), fun a ha => ?_⟩
  · rw [e 113 2 (by omega) (by unfold sC; omega) (by omega)]; exact h.pc
  · rw [e 113 1 (by omega) (by unfold sC; omega) (by omega)]; exact h.pq
  · rw [e 16 6 (by omega) (by unfold sC; omega) (by omega)]; exact h.kp
  · rw [r a (by omega) (fun k => by unfold sC; omega) (by omega)]; exact h.lo a ha
theorem MI_R {M M' : am_M} {s : St} {c len : Nat} {tp : Nat → Nat} {fk fp : Int32} (h : MI M s) (g : GI c s) (h0 : M' 205 15 = nI len) (h1 : ∀ k, k < len → M' 212 k = nI (tp k)) (h2 : M' 205 35 = fk) (h3 : M' 205 36 = fp) (e : ∀ a k, 205 ≤ a → ¬ sM a k → ¬ ((a = 205 ∧ (k = 15 ∨ k = 35 ∨ k = 36)) ∨ a = 212) → M' a k = M a k) : MI M' (sR s len tp fk fp) := by
  refine ⟨MTV_of h.tw (GT_bd g.t) ⟨e 205 8 (by omega) (by unfold sM; omega) (by omega), e 205 9 (by omega) (by unfold sM; omega) (by omega), e 205 10 (by omega) (by unfold sM; omega) (by omega), e 205 37 (by omega) (by unfold sM; omega) (by omega), e 205 39 (by omega) (by unfold sM; omega) (by omega), e 205 41 (by omega) (by unfold sM; omega) (by omega), e 205 45 (by omega) (by unfold sM; omega) (by omega), e 205 51 (by omega) (by unfold sM; omega) (by omega), e 205 54 (by omega) (by unfold sM; omega) (by omega), e 214 0 (by omega) (by unfold sM; omega) (by omega), fun k hk => e 206 k (by omega) (by unfold sM; omega) (by omega), fun k hk => e 209 k (by omega) (by unfold sM; omega) (by omega), fun k hk => e 210 k (by omega) (by unfold sM; omega) (by omega), fun k hk => e 224 k (by omega) (by unfold sM; omega) (by omega), fun k hk => e 232 k (by omega) (by unfold sM; omega) (by omega), fun k hk => e 234 k (by omega) (by unfold sM; omega) (by omega), fun k hk => e 235 k (by omega) (by unfold sM; omega) (by omega), fun k hk => e 222 k (by omega) (by unfold sM; omega) (by omega), fun k hk => e 223 k (by omega) (by unfold sM; omega) (by omega), fun k hk => e 227 k (by omega) (by unfold sM; omega) (by omega), fun k hk => e 229 k (by omega) (by unfold sM; omega) (by omega), fun k hk => e 211 k (by omega) (by unfold sM; omega) (by omega), fun k hk => e 215 k (by omega) (by unfold sM; omega) (by omega), fun k hk => e 216 k (by omega) (by unfold sM; omega) (by omega), fun k hk => e 217 k (by omega) (by unfold sM; omega) (by omega), fun k hk => e 218 k (by omega) (by unfold sM; omega) (by omega), fun k hk => e 219 k (by omega) (by unfold sM; omega) (by omega), fun k hk => e 220 k (by omega) (by unfold sM; omega) (by omega)⟩, ?_, fun i hi k hk => ?_, ?_, h0, h1, h2, h3, ?_, fun hk => MTV_of (h.kt hk) (GT_bd (g.kt hk)) (unp_of (funext fun k => e 238 k (by omega) (by unfold sM; omega) (by omega))), fun k hk => ?_, fun k hk => ?_, fun k hk => ?_⟩
  · rw [e 205 5 (by omega) (by unfold sM; omega) (by omega)]; exact h.pc
  · rw [e 207 _ (by omega) (by unfold sM; omega) (by omega)]; exact h.pw i hi k hk
  · rw [e 205 7 (by omega) (by unfold sM; omega) (by omega)]; exact h.th
  · rw [e 205 60 (by omega) (by unfold sM; omega) (by omega)]; exact h.kp
  · rw [e 213 _ (by omega) (by unfold sM; omega) (by omega)]; exact h.wd k hk
  · rw [e 230 _ (by omega) (by unfold sM; omega) (by omega)]; exact h.t0 k hk
  · rw [e 231 _ (by omega) (by unfold sM; omega) (by omega)]; exact h.t1 k hk
theorem GI_R {c : Nat} {s : St} {len : Nat} {tp : Nat → Nat} {fk fp : Int32} (h : GI c s) (h1 : len ≤ 400) (h2 : ∀ k, k < len → tp k < 256) : GI (c + 1) (sR s len tp fk fp) := ⟨GT_mono h.t (by omega), h.n6, h.q6, fun i hi => WG_mono (h.pw i hi) (by omega), h1, h2, fun hk => GT_mono (h.kt hk) (by omega)⟩
theorem p_fault {nS d c : Nat} {Mi M : am_M} {s : St} {x1 : Int32} (hC : CI Mi M s) (hM : MI M s) (hG : GI c s) : prS nS (d + 12) c Mi 136 [.ref 16, .int x1] 217 [.ref 205, .int x1] M := by
  unfold prS
  rw [c_136]
  refine ⟨_, M, rfl, rfl, ?_⟩
  rw [c_217, (told_MI hM hG).fk, (told_MI hM hG).fp, hC.fk, hC.fp]
  by_cases e0 : x1 = 0
  · rw [if_neg (fun z => z e0), if_neg (fun z => z e0)]
    exact Kq_no hC hM hG
  · rw [if_pos e0, if_pos e0]
    by_cases e1 : x1 = 1
    · rw [if_neg (fun z => z e1), if_neg (fun z => z e1)]
      exact Kq_no hC hM hG
    · rw [if_pos e1, if_pos e1]
      exact Kq_no hC hM hG
theorem p_end {nS d c : Nat} {Mi M : am_M} {s : St} {x1 : Int32} (hC : CI Mi M s) (hM : MI M s) (hG : GI c s) : prS nS (d + 12) c Mi 134 [.ref 16, .int x1] 182 [.ref 205, .int x1] M := by
  have h4 := hG.l4
  unfold prS
  rw [c_134, hC.ln]
  rcases rng x1 0 (nI s.len) 0 s.len rfl rfl (by omega) (by omega) with ⟨o1, i1⟩ | ⟨o1, i1, n, rfl, n1, n2⟩
  · rw [if_pos o1]
    refine ⟨_, M, rfl, rfl, ?_⟩
    rw [c_182, (told_MI hM hG).ln, if_neg i1]
    exact Kq_no hC hM hG
  · rw [if_neg o1]
    refine ⟨_, _, rfl, rfl, ?_⟩
    have hC1 : CI Mi (am_up M 187 0 (nI n)) (sR s n s.tp s.fk s.fp) := CI_R hC (by rw [up_same, upd_same]) (fun k hk => by rw [up_ne _ _ _ (by decide)]; exact hC.tp k (by omega)) (by rw [up_pt _ _ (by omega)]; exact hC.fk) (by rw [up_pt _ _ (by omega)]; exact hC.fp) (fun a k h1 h2 h3 => up_pt _ _ (by omega))
    have hM1 : MI (am_up M 187 0 (nI n)) s := MI_fr hM hG (Fc_up _ _ (by omega))
    have hMT := told_MI hM1 hG
    rw [c_182, hMT.ln, if_pos i1]
    exact Kq_mk hC1 (MI_R hMT hG (by rw [up_same, upd_same]) (fun k hk => by rw [up_ne _ _ _ (by decide)]; exact hMT.tp k (by omega)) (by rw [up_pt _ _ (by omega)]; exact hMT.fk) (by rw [up_pt _ _ (by omega)]; exact hMT.fp) (fun a k h1 h2 h3 => up_pt _ _ (by omega))) (Fm_tr (Fm_up _ _ (by omega)) (Fm_up _ _ (by omega))) (GI_R hG (by omega) (fun k hk => hG.tp k (by omega)))
/-- bytes on the tape: of the program, of the model -/
abbrev TPc (M0 M : am_M) (n : Nat) (tp : Nat → Nat) : Prop := (M 187 0 = nI n) ∧ (∀ k, k < n → M 198 k = nI (tp k)) ∧ (∀ a k, ¬ (a = 198 ∨ (a = 187 ∧ k = 0)) → M a k = M0 a k)
theorem TPc.n {M0 M : am_M} {n : Nat} {tp : Nat → Nat} (zz : TPc M0 M n tp) : M 187 0 = nI n := zz.1
theorem TPc.t {M0 M : am_M} {n : Nat} {tp : Nat → Nat} (zz : TPc M0 M n tp) : ∀ k, k < n → M 198 k = nI (tp k) := zz.2.1
theorem TPc.e {M0 M : am_M} {n : Nat} {tp : Nat → Nat} (zz : TPc M0 M n tp) : ∀ a k, ¬ (a = 198 ∨ (a = 187 ∧ k = 0)) → M a k = M0 a k := zz.2.2
abbrev TPm (M0 M : am_M) (n : Nat) (tp : Nat → Nat) : Prop := (M 205 15 = nI n) ∧ (∀ k, k < n → M 212 k = nI (tp k)) ∧ (∀ a k, ¬ (a = 212 ∨ (a = 205 ∧ k = 15)) → M a k = M0 a k)
theorem TPm.n {M0 M : am_M} {n : Nat} {tp : Nat → Nat} (zz : TPm M0 M n tp) : M 205 15 = nI n := zz.1
theorem TPm.t {M0 M : am_M} {n : Nat} {tp : Nat → Nat} (zz : TPm M0 M n tp) : ∀ k, k < n → M 212 k = nI (tp k) := zz.2.1
theorem TPm.e {M0 M : am_M} {n : Nat} {tp : Nat → Nat} (zz : TPm M0 M n tp) : ∀ a k, ¬ (a = 212 ∨ (a = 205 ∧ k = 15)) → M a k = M0 a k := zz.2.2
theorem x_put1 {d nS n z : Nat} {x : Int32} {M0 : am_M} {tp : Nat → Nat} {M : am_M} {Q : Option Value → am_H → Prop} (h : TPc M0 M n tp) (hn : n < 400) (hz : z ≤ 24) (hQ : ∀ M', TPc M0 M' (n + 1) (nu tp n (byt x z)) → am_Wp d 41 3 [.ref 187, .int x, .int (nI z + -8)] [] (hp nS M') Q) : am_Wp d 41 3 [.ref 187, .int x, .int (nI z)] [] (hp nS M) Q := by
  rw [b_41_3, if_neg (by rw [li, lt_n (by omega) (by omega)]; omega), b_41_7, h.n, if_neg (by rw [li, le_n (by omega) (by omega)]; omega), b_41_17 (by rw [h.n]; exact in_n hn (by omega)), h.n, cl_n (by omega), byt_c x hz, up_ne _ _ _ (show (187 : Nat) ≠ 198 by decide), h.n, nI_1]
  refine hQ _ ⟨by rw [up_same, upd_same], fun k hk => ?_, fun a k hk => ?_⟩
  · rw [up_ne _ _ _ (by decide), up_same, upd_at]
    by_cases e : k = n
    · rw [if_pos e, e, nu_same]
    · rw [if_neg e, nu_ne _ _ e]; exact h.t k (by omega)
  · rw [up_pt _ _ (by omega), up_pt _ _ (by omega)]
    exact h.e a k hk
theorem m_put1 {d nS n z : Nat} {x : Int32} {M0 : am_M} {tp : Nat → Nat} {M : am_M} {Q : Option Value → am_H → Prop} (h : TPm M0 M n tp) (hn : n < 400) (hz : z ≤ 24) (hQ : ∀ M', TPm M0 M' (n + 1) (nu tp n (byt x z)) → am_Wp d 181 3 [.ref 205, .int x, .int (nI z + -8)] [] (hp nS M') Q) : am_Wp d 181 3 [.ref 205, .int x, .int (nI z)] [] (hp nS M) Q := by
  rw [b_181_3, if_neg (by rw [li, lt_n (by omega) (by omega)]; omega), b_181_7 (by rw [h.n]; exact in_n hn (by omega)), h.n, cl_n (by omega), byt_m x z, up_ne _ _ _ (show (205 : Nat) ≠ 212 by decide), h.n, nI_1]
  refine hQ _ ⟨by rw [up_same, upd_same], fun k hk => ?_, fun a k hk => ?_⟩
  · rw [up_ne _ _ _ (by decide), up_same, upd_at]
    by_cases e : k = n
    · rw [if_pos e, e, nu_same]
    · rw [if_neg e, nu_ne _ _ e]; exact h.t k (by omega)
  · rw [up_pt _ _ (by omega), up_pt _ _ (by omega)]
    exact h.e a k hk
def pt4 (tp : Nat → Nat) (n : Nat) (x : Int32) : Nat → Nat := nu (nu (nu (nu tp n (byt x 24)) (n + 1) (byt x 16)) (n + 2) (byt x 8)) (n + 3) (byt x 0)
theorem pt4_b {tp : Nat → Nat} {n : Nat} (x : Int32) (h : ∀ k, k < n → tp k < 256) : ∀ k, k < n + 4 → pt4 tp n x k < 256 := by
  intro k hk
  unfold pt4
  by_cases e3 : k = n + 3
  · rw [e3, nu_same]; exact byt_lt _ _
  · rw [nu_ne _ _ e3]
    by_cases e2 : k = n + 2
    · rw [e2, nu_same]; exact byt_lt _ _
    · rw [nu_ne _ _ e2]
      by_cases e1 : k = n + 1
      · rw [e1, nu_same]; exact byt_lt _ _
      · rw [nu_ne _ _ e1]
        by_cases e0 : k = n
        · rw [e0, nu_same]; exact byt_lt _ _
        · rw [nu_ne _ _ e0]; exact h k (by omega)
theorem m8 : (nI 24 + -8 = nI 16) ∧ (nI 16 + -8 = nI 8) ∧ (nI 8 + -8 = nI 0) := by decide
theorem x_puts {d nS n : Nat} {x : Int32} {M0 : am_M} {tp : Nat → Nat} {M : am_M} {Q : Option Value → am_H → Prop} (h : TPc M0 M n tp) (hn : n + 4 ≤ 400) (hQ : ∀ M', TPc M0 M' (n + 4) (pt4 tp n x) → Q none (hp nS M')) : am_Wp d 41 0 [.ref 187, .int x, .retAddr 0] [] (hp nS M) Q := by
  obtain ⟨e1, e2, e3⟩ := m8
  rw [b_41_0]
  refine x_put1 (z := 24) h (by omega) (by omega) (fun M1 h1 => ?_)
  rw [e1]
  refine x_put1 (z := 16) h1 (by omega) (by omega) (fun M2 h2 => ?_)
  rw [e2]
  refine x_put1 (z := 8) h2 (by omega) (by omega) (fun M3 h3 => ?_)
  rw [e3]
  refine x_put1 (z := 0) h3 (by omega) (by omega) (fun M4 h4 => ?_)
  rw [b_41_3, if_pos (by decide), b_41_49]
  exact hQ M4 h4
theorem m_puts {d nS n : Nat} {x : Int32} {M0 : am_M} {tp : Nat → Nat} {M : am_M} {Q : Option Value → am_H → Prop} (h : TPm M0 M n tp) (hn : n + 4 ≤ 400) (hQ : ∀ M', TPm M0 M' (n + 4) (pt4 tp n x) → Q none (hp nS M')) : am_Wp d 181 0 [.ref 205, .int x, .retAddr 0] [] (hp nS M) Q := by
  obtain ⟨e1, e2, e3⟩ := m8
  rw [b_181_0]
  refine m_put1 (z := 24) h (by omega) (by omega) (fun M1 h1 => ?_)
  rw [e1]
  refine m_put1 (z := 16) h1 (by omega) (by omega) (fun M2 h2 => ?_)
  rw [e2]
  refine m_put1 (z := 8) h2 (by omega) (by omega) (fun M3 h3 => ?_)
  rw [e3]
  refine m_put1 (z := 0) h3 (by omega) (by omega) (fun M4 h4 => ?_)
  rw [b_181_3, if_pos (by decide), b_181_39]
  exact hQ M4 h4
theorem p_feed {nS d c : Nat} {Mi M : am_M} {s : St} {x1 x2 x3 x4 x5 : Int32} (hC : CI Mi M s) (hM : MI M s) (hG : GI c s) : prS nS (d + 12) c Mi 133 [.ref 16, .int x1, .int x2, .int x3, .int x4, .int x5] 180 [.ref 205, .int x1, .int x2, .int x3, .int x4, .int x5] M := by
  have h4 := hG.l4
  have a20 : nI s.len + 20 = nI (s.len + 20) := nI_add _ 20
  unfold prS
  rw [b_133_0, hC.ln, a20]
  by_cases hf : s.len ≤ 380
  · rw [if_pos (by rw [li, le_n (by omega) (by omega)]; omega), b_133_18]
    refine x_puts (M0 := M) ⟨hC.ln, hC.tp, fun _ _ _ => rfl⟩ (by omega) (fun M1 h1 => ?_)
    rw [am_ans_none, b_133_26]
    refine x_puts h1 (by omega) (fun M2 h2 => ?_)
    rw [am_ans_none, b_133_34]
    refine x_puts h2 (by omega) (fun M3 h3 => ?_)
    rw [am_ans_none, b_133_42]
    refine x_puts h3 (by omega) (fun M4 h4 => ?_)
    rw [am_ans_none, b_133_51]
    refine x_puts h4 (by omega) (fun M5 h5 => ?_)
    rw [am_ans_none, b_133_60, h5.n]
    refine ⟨_, M5, rfl, rfl, ?_⟩
    have hC1 : CI Mi M5 (sR s (s.len + 4 + 4 + 4 + 4 + 4) (pt4 (pt4 (pt4 (pt4 (pt4 s.tp s.len x1) (s.len + 4) x2) (s.len + 4 + 4) x3) (s.len + 4 + 4 + 4) x4) (s.len + 4 + 4 + 4 + 4) x5) s.fk s.fp) := CI_R hC h5.n h5.t (by rw [h5.e 187 1 (by omega)]; exact hC.fk) (by rw [h5.e 187 2 (by omega)]; exact hC.fp) (fun a k q1 q2 q3 => h5.e a k (by omega))
    have hM5 : MI M5 s := MI_fr hM hG (fun a ha => funext fun k => h5.e a k (by omega))
    have hMT := told_MI hM5 hG
    rw [b_180_0, hMT.ln, if_pos (by rw [li, le_n (by omega) (by omega)]; omega), b_180_17]
    refine m_puts (M0 := am_up M5 205 0 0) ⟨hMT.ln, hMT.tp, fun _ _ _ => rfl⟩ (by omega) (fun N1 g1 => ?_)
    rw [am_ans_none, b_180_22]
    refine m_puts g1 (by omega) (fun N2 g2 => ?_)
    rw [am_ans_none, b_180_27]
    refine m_puts g2 (by omega) (fun N3 g3 => ?_)
    rw [am_ans_none, b_180_32]
    refine m_puts g3 (by omega) (fun N4 g4 => ?_)
    rw [am_ans_none, b_180_38]
    refine m_puts g4 (by omega) (fun N5 g5 => ?_)
    rw [am_ans_none, b_180_44, g5.n]
    refine Kq_mk hC1 (MI_R hMT hG g5.n g5.t (by rw [g5.e 205 35 (by omega)]; exact hMT.fk) (by rw [g5.e 205 36 (by omega)]; exact hMT.fp) (fun a k q1 q2 q3 => g5.e a k (by omega))) (Fm_tr (Fm_up _ _ (by omega)) (fun a ha => funext fun k => g5.e a k (by omega))) (GI_R hG (by omega) (pt4_b x5 (pt4_b x4 (pt4_b x3 (pt4_b x2 (pt4_b x1 hG.tp))))))
  · rw [if_neg (by rw [li, le_n (by omega) (by omega)]; omega), b_133_16]
    refine ⟨_, M, rfl, rfl, ?_⟩
    rw [b_180_0, (told_MI hM hG).ln, if_neg (by rw [li, le_n (by omega) (by omega)]; omega), b_180_15]
    exact Kq_no hC hM hG
end
