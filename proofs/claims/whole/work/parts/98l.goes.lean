section
/-! IN THOUGHT -/
def thI (t : Tn) (j : Nat) : Rw × Rw := itr (fun _ => dayP t.l t.x t.dn t.tr true) (t.W, t.B) j
theorem thI_s (t : Tn) (j : Nat) : thI t (j + 1) = dayP t.l t.x t.dn t.tr true (thI t j) := rfl
theorem th_ok {c D : Nat} {s : St} (hG : GI c s) (hc : c ≤ 1000) (hD : s.t.W 0 = nI D) (hD9 : D ≤ 9999) : ∀ j, j ≤ 61 → WOk s.t.x (9999 + 1582416 * c + 98901 * trC s.t.tr D j s.t.tr.n) (thI s.t j).1 ∧ (thI s.t j).1 0 = nI (D + j) ∧ (thI s.t j).2 = s.t.B
  | 0, _ => ⟨by rw [trC_0]; exact hG.t.wg.ok, hD, rfl⟩
  | j + 1, h => by
    obtain ⟨h1, h2, h3⟩ := th_ok hG hc hD hD9 j (by omega)
    have n16 := hG.t.tk.n16
    have hcl := trC_le s.t.tr D j s.t.tr.n
    have ok := day_ok (l := s.t.l) (p := thI s.t j) h1 hG.t.dk hG.t.tk hG.t.L6 hG.t.G8 hG.t.T10 (by omega) true
    rw [h2, Nat.add_assoc, ← Nat.mul_add, trC_s hG.t.tk D j (by omega) _ (Nat.le_refl _)] at ok
    refine ⟨ok, ?_, ?_⟩
    · rw [thI_s, dayP_0, h2, nI_1]; rfl
    · rw [thI_s, day_t]; exact h3
theorem CI_th {Mi M1 M2 : am_M} {s : St} {W : Rw} (hC : CI Mi M1 s) (h : KC 101 M1 M2 s.t.x W s.t.B) : CI Mi M2 s := CI_T hC (CT_K hC.tw (by omega) h.bk (fun a k h1 h2 h3 h4 => by rw [h.fr a (by unfold chg; omega)])) rfl (fun a k h1 h2 h3 => by rw [h.fr a (by unfold chg; unfold sC at h3; omega)])
theorem x_s105 {d nS n : Nat} {f : Nat → Int32} {M : am_M} {Q : Option Value → am_H → Prop} (hf : ∀ k, k < n → M 105 k = f k) (hn : n ≤ 6) : am_Wp d 142 0 [.ref 105, .int (nI n), .retAddr 0, .retAddr 0] [] (hp nS M) Q = Q (some (.int (sI f n))) (hp nS M) := by
  rw [b_142i1_0]
  refine l_up n (fun k => am_Wp d 142 4 [.ref 105, .int (nI n), .int (sI f k), .int (nI k)] [] (hp nS M) Q = Q (some (.int (sI f n))) (hp nS M)) ?_ (fun k hk ih => ?_)
  · rw [b_142i1_4, if_pos (Int32.le_refl _), b_142i1_27]
  · rw [b_142i1_4, if_neg (by rw [le_n (by omega) (by omega)]; omega), b_142i1_9, if_neg (by rw [li, le_n (by omega) (by omega)]; omega), b_142i1_15 (by first | exact in_n (by omega) (by omega) | (simp only [li, nI_add, pk_mul]; exact in_n (by omega) (by omega))), cl_n (by omega), hf k hk, nI_1]
    exact ih
theorem x_s109 {d nS n : Nat} {f : Nat → Int32} {M : am_M} {Q : Option Value → am_H → Prop} (hf : ∀ k, k < n → M 109 k = f k) (hn : n ≤ 8) : am_Wp d 142 0 [.ref 109, .int (nI n), .retAddr 0, .retAddr 0] [] (hp nS M) Q = Q (some (.int (sI f n))) (hp nS M) := by
  rw [b_142i3_0]
  refine l_up n (fun k => am_Wp d 142 4 [.ref 109, .int (nI n), .int (sI f k), .int (nI k)] [] (hp nS M) Q = Q (some (.int (sI f n))) (hp nS M)) ?_ (fun k hk ih => ?_)
  · rw [b_142i3_4, if_pos (Int32.le_refl _), b_142i3_27]
  · rw [b_142i3_4, if_neg (by rw [le_n (by omega) (by omega)]; omega), b_142i3_9, if_neg (by rw [li, le_n (by omega) (by omega)]; omega), b_142i3_15 (by first | exact in_n (by omega) (by omega) | (simp only [li, nI_add, pk_mul]; exact in_n (by omega) (by omega))), cl_n (by omega), hf k hk, nI_1]
    exact ih
theorem x_s110 {d nS n : Nat} {f : Nat → Int32} {M : am_M} {Q : Option Value → am_H → Prop} (hf : ∀ k, k < n → M 110 k = f k) (hn : n ≤ 10) : am_Wp d 142 0 [.ref 110, .int (nI n), .retAddr 0, .retAddr 0] [] (hp nS M) Q = Q (some (.int (sI f n))) (hp nS M) := by
  rw [b_142i2_0]
  refine l_up n (fun k => am_Wp d 142 4 [.ref 110, .int (nI n), .int (sI f k), .int (nI k)] [] (hp nS M) Q = Q (some (.int (sI f n))) (hp nS M)) ?_ (fun k hk ih => ?_)
  · rw [b_142i2_4, if_pos (Int32.le_refl _), b_142i2_27]
  · rw [b_142i2_4, if_neg (by rw [le_n (by omega) (by omega)]; omega), b_142i2_9, if_neg (by rw [li, le_n (by omega) (by omega)]; omega), b_142i2_15 (by first | exact in_n (by omega) (by omega) | (simp only [li, nI_add, pk_mul]; exact in_n (by omega) (by omega))), cl_n (by omega), hf k hk, nI_1]
    exact ih
theorem x_s111 {d nS n : Nat} {f : Nat → Int32} {M : am_M} {Q : Option Value → am_H → Prop} (hf : ∀ k, k < n → M 111 k = f k) (hn : n ≤ 10) : am_Wp d 142 0 [.ref 111, .int (nI n), .retAddr 0, .retAddr 0] [] (hp nS M) Q = Q (some (.int (sI f n))) (hp nS M) := by
  rw [b_142_0]
  refine l_up n (fun k => am_Wp d 142 4 [.ref 111, .int (nI n), .int (sI f k), .int (nI k)] [] (hp nS M) Q = Q (some (.int (sI f n))) (hp nS M)) ?_ (fun k hk ih => ?_)
  · rw [b_142_4, if_pos (Int32.le_refl _), b_142_27]
  · rw [b_142_4, if_neg (by rw [le_n (by omega) (by omega)]; omega), b_142_9, if_neg (by rw [li, le_n (by omega) (by omega)]; omega), b_142_15 (by first | exact in_n (by omega) (by omega) | (simp only [li, nI_add, pk_mul]; exact in_n (by omega) (by omega))), cl_n (by omega), hf k hk, nI_1]
    exact ih
theorem m_sumO {d nS n b : Nat} {f : Nat → Int32} {M : am_M} {Q : Option Value → am_H → Prop} (hf : ∀ k, k < n → M 206 (b + k) = f k) (hn : n ≤ 10) (hb : b ≤ 100) : am_Wp d 253 0 [.ref 205, .int (nI b), .int (nI n), .retAddr 0, .retAddr 0] [] (hp nS M) Q = Q (some (.int (sI f n))) (hp nS M) := by
  rw [b_253_0]
  refine l_up n (fun k => am_Wp d 253 5 [.ref 205, .int (nI b), .int (nI n), .int (sI f k), .int (nI k)] [] (hp nS M) Q = Q (some (.int (sI f n))) (hp nS M)) ?_ (fun k hk ih => ?_)
  · rw [b_253_5, if_pos (Int32.le_refl _), b_253_29]
  · rw [b_253_5, if_neg (by rw [le_n (by omega) (by omega)]; omega), b_253_11 (by rw [nI_add]; exact in_n (by omega) (by omega)), nI_add, cl_n (by omega), hf k hk, nI_1]
    exact ih
/-! the model begins to think, and ends it -/
theorem eqM_7 {M M' : am_M} (e : ∀ a k, ¬ (a = 208 ∨ (a = 205 ∧ k = 7)) → M' a k = M a k) : eqM M M' := ⟨e _ _ (by omega), e _ _ (by omega), e _ _ (by omega), e _ _ (by omega), e _ _ (by omega), e _ _ (by omega), e _ _ (by omega), e _ _ (by omega), e _ _ (by omega), e _ _ (by omega), fun k _ => e _ _ (by omega), fun k _ => e _ _ (by omega), fun k _ => e _ _ (by omega), fun k _ => e _ _ (by omega), fun k _ => e _ _ (by omega), fun k _ => e _ _ (by omega), fun k _ => e _ _ (by omega), fun k _ => e _ _ (by omega), fun k _ => e _ _ (by omega), fun k _ => e _ _ (by omega), fun k _ => e _ _ (by omega), fun k _ => e _ _ (by omega), fun k _ => e _ _ (by omega), fun k _ => e _ _ (by omega), fun k _ => e _ _ (by omega), fun k _ => e _ _ (by omega), fun k _ => e _ _ (by omega), fun k _ => e _ _ (by omega)⟩
abbrev TH (M N : am_M) : Prop := (N 205 7 = bI true) ∧ (∀ k, k < 136 → N 208 k = M 206 k) ∧ (∀ a k, ¬ (a = 208 ∨ (a = 205 ∧ k = 7)) → N a k = M a k)
theorem TH.t {M N : am_M} (zz : TH M N) : N 205 7 = bI true := zz.1
theorem TH.w {M N : am_M} (zz : TH M N) : ∀ k, k < 136 → N 208 k = M 206 k := zz.2.1
theorem TH.e {M N : am_M} (zz : TH M N) : ∀ a k, ¬ (a = 208 ∨ (a = 205 ∧ k = 7)) → N a k = M a k := zz.2.2
theorem m_thinks {d nS : Nat} {M : am_M} {Q : Option Value → am_H → Prop} (hQ : ∀ N, TH M N → Q none (hp nS N)) : am_Wp d 252 0 [.ref 205, .retAddr 0] [] (hp nS M) Q := by
  have key : ∀ (m k : Nat) (r : Rw), k + m = 136 → (∀ j, j < k → r j = M 206 j) → am_Wp d 252 2 [.ref 205, .int (nI k)] [] (hp nS (am_row M 208 r)) Q := by
    intro m
    induction m with
    | zero =>
      intro k r hk hr
      have : k = 136 := by omega
      subst this
      rw [b_252_2, if_pos (by decide), b_252_27]
      exact hQ _ ⟨by rw [up_same, upd_same]; rfl, fun k hk => by rw [up_ne _ _ _ (by decide), row_same]; exact hr k hk, fun a k h => by rw [up_pt _ _ (by omega), row_pt _ _ _ (by omega)]⟩
    | succ m ih =>
      intro k r hk hr
      rw [b_252_2, if_neg (by rw [li, le_n (by omega) (by omega)]; omega), b_252_9 (by first | exact in_n (by omega) (by omega) | (simp only [li, nI_add, pk_mul]; exact in_n (by omega) (by omega))) (by first | exact in_n (by omega) (by omega) | (simp only [li, nI_add, pk_mul]; exact in_n (by omega) (by omega))), cl_n (by omega), up_row, row_ne _ _ (show (206 : Nat) ≠ 208 by decide), nI_1]
      refine ih (k + 1) _ (by omega) (fun j hj => ?_)
      rw [upd_at]
      by_cases e : j = k
      · rw [if_pos e, e]
      · rw [if_neg e]; exact hr j (by omega)
  rw [b_252_0]
  have := key 136 0 (M 208) (by omega) (fun j hj => by omega)
  rw [row_id] at this
  exact this
theorem Stm_th {c : Nat} {M N : am_M} {s : St} (hM : MI M s) (hG : GI c s) (h : TH M N) : Stm N s.t.l s.t.x true := ⟨MLw_e hM.tw.lw (eqM_7 h.e) hG.t.ok.n16 hG.t.ok.u400, hG.t.ok, MX_of hM.tw.mx (eqM_7 h.e), hG.t.L6, hG.t.G8, hG.t.T10, hG.t.up, h.t⟩
theorem m_ends {nS d c : Nat} {M0 N : am_M} {s : St} {W B : Rw} {M : am_M} {Q : Option Value → am_H → Prop} (hM : MI M0 s) (hG : GI c s) (ht : TH M0 N) (h : KM N M W B) (hB : ∀ k, k < 600 → B k = s.t.B k) (hQ : ∀ N', MI N' s → Fm M0 N' → Q none (hp nS N')) : am_Wp d 254 0 [.ref 205, .retAddr 0] [] (hp nS M) Q := by
  have g : ∀ a k, a ≠ 206 → a ≠ 211 → a ≠ 225 → a ≠ 226 → ¬ (a = 208 ∨ (a = 205 ∧ k = 7)) → M a k = M0 a k := fun a k h1 h2 h3 h4 h5 => by rw [h.fr a h1 h2 h3 h4]; exact ht.e a k h5
  have key : ∀ (m k : Nat) (r : Rw), k + m = 136 → (∀ j, j < k → r j = s.t.W j) → am_Wp d 254 2 [.ref 205, .int (nI k)] [] (hp nS (am_row M 206 r)) Q := by
    intro m
    induction m with
    | zero =>
      intro k r hk hr
      have : k = 136 := by omega
      subst this
      rw [b_254_2, if_pos (by decide), b_254_27]
      have f7 : am_up (am_row M 206 r) 205 7 0 205 7 = 0 := by rw [up_same, upd_same]
      have f6 : ∀ k, k < 136 → am_up (am_row M 206 r) 205 7 0 206 k = s.t.W k := fun k hk => by rw [up_ne _ _ _ (by decide), row_same]; exact hr k hk
      have f11 : ∀ k, k < 600 → am_up (am_row M 206 r) 205 7 0 211 k = s.t.B k := fun k hk => by rw [up_ne _ _ _ (by decide), row_ne _ _ (by decide), h.b]; exact hB k hk
      have g2 : ∀ a k, a ≠ 206 → a ≠ 211 → a ≠ 225 → a ≠ 226 → ¬ (a = 208 ∨ (a = 205 ∧ k = 7)) → am_up (am_row M 206 r) 205 7 0 a k = M0 a k := fun a k h1 h2 h3 h4 h5 => by rw [up_pt _ _ (by omega), row_pt _ _ _ h1]; exact g a k h1 h2 h3 h4 h5
      generalize am_up (am_row M 206 r) 205 7 0 = N3 at *
      have hX : MX N3 s.t.x := ⟨by rw [g2 _ _ (by omega) (by omega) (by omega) (by omega) (by omega)]; exact hM.tw.mx.fL, by rw [g2 _ _ (by omega) (by omega) (by omega) (by omega) (by omega)]; exact hM.tw.mx.fG, by rw [g2 _ _ (by omega) (by omega) (by omega) (by omega) (by omega)]; exact hM.tw.mx.fT, fun k hk => by rw [g2 _ _ (by omega) (by omega) (by omega) (by omega) (by omega)]; exact hM.tw.mx.vo k hk, fun k hk => by rw [g2 _ _ (by omega) (by omega) (by omega) (by omega) (by omega)]; exact hM.tw.mx.ba k hk, fun k hk => by rw [g2 _ _ (by omega) (by omega) (by omega) (by omega) (by omega)]; exact hM.tw.mx.up k hk⟩
      have eq : eqM M0 N3 := ⟨g2 _ _ (by omega) (by omega) (by omega) (by omega) (by omega), g2 _ _ (by omega) (by omega) (by omega) (by omega) (by omega), g2 _ _ (by omega) (by omega) (by omega) (by omega) (by omega), g2 _ _ (by omega) (by omega) (by omega) (by omega) (by omega), g2 _ _ (by omega) (by omega) (by omega) (by omega) (by omega), g2 _ _ (by omega) (by omega) (by omega) (by omega) (by omega), g2 _ _ (by omega) (by omega) (by omega) (by omega) (by omega), g2 _ _ (by omega) (by omega) (by omega) (by omega) (by omega), g2 _ _ (by omega) (by omega) (by omega) (by omega) (by omega), g2 _ _ (by omega) (by omega) (by omega) (by omega) (by omega), fun k hk => (f6 k hk).trans (hM.tw.w k hk).symm, fun k _ => g2 _ _ (by omega) (by omega) (by omega) (by omega) (by omega), fun k _ => g2 _ _ (by omega) (by omega) (by omega) (by omega) (by omega), fun k _ => g2 _ _ (by omega) (by omega) (by omega) (by omega) (by omega), fun k _ => g2 _ _ (by omega) (by omega) (by omega) (by omega) (by omega), fun k _ => g2 _ _ (by omega) (by omega) (by omega) (by omega) (by omega), fun k _ => g2 _ _ (by omega) (by omega) (by omega) (by omega) (by omega), fun k _ => g2 _ _ (by omega) (by omega) (by omega) (by omega) (by omega), fun k _ => g2 _ _ (by omega) (by omega) (by omega) (by omega) (by omega), fun k _ => g2 _ _ (by omega) (by omega) (by omega) (by omega) (by omega), fun k _ => g2 _ _ (by omega) (by omega) (by omega) (by omega) (by omega), fun k hk => (f11 k hk).trans (hM.tw.bk k hk).symm, fun k _ => g2 _ _ (by omega) (by omega) (by omega) (by omega) (by omega), fun k _ => g2 _ _ (by omega) (by omega) (by omega) (by omega) (by omega), fun k _ => g2 _ _ (by omega) (by omega) (by omega) (by omega) (by omega), fun k _ => g2 _ _ (by omega) (by omega) (by omega) (by omega) (by omega), fun k _ => g2 _ _ (by omega) (by omega) (by omega) (by omega) (by omega), fun k _ => g2 _ _ (by omega) (by omega) (by omega) (by omega) (by omega)⟩
      refine hQ N3 (MI_T hM hG (t := s.t) (MTV_of hM.tw (GT_bd hG.t) eq) (fun a k h1 h2 h3 => ?_)) (fun a ha => funext fun k => g2 a k (by omega) (by omega) (by omega) (by omega) (by omega))
      by_cases e7 : a = 205 ∧ k = 7
      · rw [e7.1, e7.2, f7]; exact hM.th.symm
      · exact g2 a k (by unfold rT at h3; omega) (by unfold rT at h3; omega) (by unfold sM at h2; omega) (by unfold sM at h2; omega) (by unfold sM at h2; omega)
    | succ m ih =>
      intro k r hk hr
      have e208 : am_row M 206 r 208 k = s.t.W k := by
        rw [row_ne _ _ (by decide), h.fr 208 (by decide) (by decide) (by decide) (by decide), ht.w k (by omega)]
        exact hM.tw.w k (by omega)
      rw [b_254_2, if_neg (by rw [li, le_n (by omega) (by omega)]; omega), b_254_9 (by first | exact in_n (by omega) (by omega) | (simp only [li, nI_add, pk_mul]; exact in_n (by omega) (by omega))) (by first | exact in_n (by omega) (by omega) | (simp only [li, nI_add, pk_mul]; exact in_n (by omega) (by omega))), cl_n (by omega), e208, up_row, nI_1]
      refine ih (k + 1) _ (by omega) (fun j hj => ?_)
      rw [upd_at]
      by_cases e : j = k
      · rw [if_pos e, e]
      · rw [if_neg e]; exact hr j (by omega)
  rw [b_254_0]
  have := key 136 0 (M 206) (by omega) (fun j hj => by omega)
  rw [row_id] at this
  exact this
theorem x_goL {nS d c D n : Nat} {x2 : Int32} {Mi M1 : am_M} {s : St} {Q : Option Value → am_H → Prop} (hC : CI Mi M1 s) (hG : GI c s) (hc : c ≤ 1000) (hD : s.t.W 0 = nI D) (hD9 : D ≤ 9999) (h60 : n ≤ 60) (hQ : ∀ M', KC 101 M1 M' s.t.x (thI s.t n).1 (thI s.t n).2 → am_Wp (d + 5) 141 62 [.ref 16, .int (nI n), .int x2, .int (nI n)] [] (hp nS M') Q) : ∀ (m j : Nat) (M : am_M), j + m = n → KC 101 M1 M s.t.x (thI s.t j).1 (thI s.t j).2 → am_Wp (d + 5) 141 38 [.ref 16, .int (nI n), .int x2, .int (nI j)] [] (hp nS M) Q := by
  intro m
  induction m with
  | zero =>
    intro j M hj h
    have : j = n := by omega
    subst this
    rw [b_141_38, if_pos (Int32.le_refl _)]
    exact hQ M h
  | succ m ih =>
    intro j M hj h
    obtain ⟨o1, o2, o3⟩ := th_ok hG hc hD hD9 j (by omega)
    have n16 := hG.t.tk.n16
    have hcl := trC_le s.t.tr D j s.t.tr.n
    rw [b_141_38, if_neg (by rw [le_n (by omega) (by omega)]; omega), b_141_43]
    refine x_dayi1 h (Sts_of hC hG) hC.tw.dn hG.t.dk hC.tw.tr hG.t.tk o1 (by omega) (fun M2 h2 _ => ?_)
    rw [am_ans_some, b_141_55, nI_1]
    exact ih (j + 1) M2 (by omega) h2
theorem m_goL {nS d c D n : Nat} {x2 : Int32} {M0 N : am_M} {s : St} {Q : Option Value → am_H → Prop} (hM : MI M0 s) (ht : TH M0 N) (hG : GI c s) (hc : c ≤ 1000) (hD : s.t.W 0 = nI D) (hD9 : D ≤ 9999) (h60 : n ≤ 60) (hQ : ∀ M', KM N M' (thI s.t n).1 (thI s.t n).2 → am_Wp (d + 7) 251 51 [.ref 205, .int (nI n), .int x2, .int (nI n)] [] (hp nS M') Q) : ∀ (m j : Nat) (M : am_M), j + m = n → KM N M (thI s.t j).1 (thI s.t j).2 → am_Wp (d + 7) 251 35 [.ref 205, .int (nI n), .int x2, .int (nI j)] [] (hp nS M) Q := by
  have hS := Stm_th hM hG ht
  have hDn := MDn_e hM.tw.dn (eqM_7 ht.e) hG.t.dk.n16
  have hTr := MTr_e hM.tw.tr (eqM_7 ht.e) hG.t.tk.n16
  intro m
  induction m with
  | zero =>
    intro j M hj h
    have : j = n := by omega
    subst this
    rw [b_251_35, if_pos (Int32.le_refl _)]
    exact hQ M h
  | succ m ih =>
    intro j M hj h
    obtain ⟨o1, o2, o3⟩ := th_ok hG hc hD hD9 j (by omega)
    have n16 := hG.t.tk.n16
    have hcl := trC_le s.t.tr D j s.t.tr.n
    rw [b_251_35, if_neg (by rw [le_n (by omega) (by omega)]; omega), b_251_40]
    refine m_day h hS hDn hG.t.dk hTr hG.t.tk o1 (by omega) (fun M2 h2 => ?_)
    rw [am_ans_some, b_251_44, nI_1]
    exact ih (j + 1) M2 (by omega) h2
theorem KC_101 {Mi M M1 : am_M} {s : St} (hC : CI Mi M s) (h : wcs 101 18 11 M M1) (hG8 : s.t.x.G ≤ 8) : CI Mi M1 s ∧ KC 101 M1 M1 s.t.x s.t.W s.t.B ∧ Fc M M1 := by
  have hC1 : CI Mi M1 s := CI_of hC (fun a k ha hs => by rw [h.e a (by unfold sC at hs; omega)])
  exact ⟨hC1, ⟨CW_cpy h hC.tw.w hG8, hC1.tw.bk, fun _ _ => rfl⟩, fun a ha => h.e a (by omega)⟩
theorem p_goes {nS d c : Nat} {Mi M : am_M} {s : St} {x1 x2 : Int32} (hC : CI Mi M s) (hM : MI M s) (hG : GI c s) (hc : c ≤ 1000) : prS nS (d + 12) c Mi 141 [.ref 16, .int x1, .int x2, .retAddr 0] 251 [.ref 205, .int x1, .int x2, .retAddr 0] M := by
  obtain ⟨s, hC, hM, hG, eW, eB⟩ := nrm hC hM hG
  obtain ⟨D, hD, hD9⟩ := hG.t.wg.d
  have hL6 := hG.t.L6
  have hG8 := hG.t.G8
  have hT10 := hG.t.T10
  unfold prS
  rw [b_141_0, c_125, am_ans_some, b_141_7]
  rcases rng x1 1 60 1 60 rfl rfl (by omega) (by omega) with ⟨o1, i1⟩ | ⟨o1, i1, n, rfl, n1, n2⟩
  · rw [ite1_t o1, b_141_19]
    refine ⟨_, M, rfl, rfl, ?_⟩
    rw [b_251_0, c_171, am_ans_some, b_251_13, ite0_f i1, b_251_26]
    exact Kq_no hC hM hG
  rw [ite1_f o1, b_141_10, c_125, am_ans_some, b_141_16]
  rcases rng x2 0 3 0 3 rfl rfl (by omega) (by omega) with ⟨o2, i2⟩ | ⟨o2, i2, q, rfl, q1, q2⟩
  · rw [ite0_t o2, b_141_19]
    refine ⟨_, M, rfl, rfl, ?_⟩
    rw [b_251_0, c_171, am_ans_some, b_251_13, ite0_t i1, b_251_16, c_171, am_ans_some, b_251_23, ite1_f i2, b_251_26]
    exact Kq_no hC hM hG
  rw [ite0_f o2, b_141_22]
  refine w_101_18 (d := d + 9) (fun M1 hw => ?_)
  obtain ⟨hC1, hK1, hF1⟩ := KC_101 hC hw hG8
  rw [am_ans_none, b_141_36]
  have hB : (thI s.t n).2 = s.t.B := (th_ok hG hc hD hD9 n (by omega)).2.2
  refine x_goL (d := d + 7) hC1 hG hc hD hD9 n2 (fun M2 h2 => ?_) n 0 M1 (by omega) hK1
  have hC2 : CI Mi M2 s := CI_th hC1 (by rw [← hB]; exact h2)
  have hF2 : Fc M M2 := Fc_tr hF1 (Fc_KC h2 (Or.inr rfl))
  have hM2 : MI M2 s := MI_fr hM hG hF2
  have hMT := told_MI hM2 hG
  have mo : ∀ v : Int32, (∀ N2 : am_M, KM N2 N2 (thI s.t n).1 (thI s.t n).2 → MX N2 s.t.x → am_Wp (d + 12) 251 51 [.ref 205, .int (nI n), .int (nI q), .int (nI n)] [] (hp nS N2) (Kq nS c Mi v) = am_Wp (d + 11 + 1) 251 114 [.ref 205, .int (nI n), .int (nI q), .int (nI n)] [.int v] (hp nS N2) (Kq nS c Mi v)) → am_Wp (d + 12) 251 0 [.ref 205, .int (nI n), .int (nI q), .retAddr 0] [] (hp nS M2) (Kq nS c Mi v) := by
    intro v hv
    rw [b_251_0, c_171, am_ans_some, b_251_13, ite0_t i1, b_251_16, c_171, am_ans_some, b_251_23, ite1_t i2, b_251_29]
    refine m_thinks (fun N ht => ?_)
    rw [am_ans_none, b_251_33]
    have eW2 : N 206 = s.t.W := by
      have : N 206 = am_up M2 205 0 0 206 := funext fun k => ht.e 206 k (by omega)
      rw [this, up_ne _ _ _ (by decide), hF2 206 (by omega)]; exact eW.symm
    have eB2 : N 211 = s.t.B := by
      have : N 211 = am_up M2 205 0 0 211 := funext fun k => ht.e 211 k (by omega)
      rw [this, up_ne _ _ _ (by decide), hF2 211 (by omega)]; exact eB.symm
    refine m_goL (d := d + 5) hMT ht hG hc hD hD9 n2 (fun N2 h3 => ?_) n 0 N (by omega) ⟨eW2, eB2, fun _ _ _ _ _ => rfl⟩
    have hX := (Stm_th hMT hG ht).mx
    have hX2 : MX N2 s.t.x := ⟨by rw [h3.fr 205 (by decide) (by decide) (by decide) (by decide)]; exact hX.fL, by rw [h3.fr 205 (by decide) (by decide) (by decide) (by decide)]; exact hX.fG, by rw [h3.fr 205 (by decide) (by decide) (by decide) (by decide)]; exact hX.fT, by rw [h3.fr 209 (by decide) (by decide) (by decide) (by decide)]; exact hX.vo, by rw [h3.fr 210 (by decide) (by decide) (by decide) (by decide)]; exact hX.ba, by rw [h3.fr 224 (by decide) (by decide) (by decide) (by decide)]; exact hX.up⟩
    refine Eq.mpr (hv N2 ⟨h3.w, h3.b, fun _ _ _ _ _ => rfl⟩ hX2) ?_
    rw [b_251_114]
    refine m_ends hMT hG ht h3 (fun k _ => by rw [hB]) (fun N3 h4 f4 => ?_)
    rw [am_ans_none, b_251_119]
    exact Kq_mk hC2 h4 (Fm_tr (Fm_up _ _ (by omega)) f4) (GI_mono hG (by omega))
  have g1 : M2 101 1 = nI s.t.x.G := h2.cw.fG
  have g2 : M2 101 2 = nI s.t.x.T := h2.cw.fT
  have g0 : M2 101 0 = nI s.t.x.L := h2.cw.fL
  rw [b_141_62]
  have : q = 0 ∨ q = 1 ∨ q = 2 ∨ q = 3 := by omega
  rcases this with rfl | rfl | rfl | rfl
  · rw [if_pos (by decide), b_141_88, g1, x_s109 (f := fun k => (thI s.t n).1 (28 + k)) (fun k hk => h2.cw.pr k (by omega)) hG8, am_ans_some, b_141_105]
    refine ⟨_, M2, rfl, rfl, mo _ (fun N2 h3 hX => ?_)⟩
    rw [b_251_51, if_neg (by decide), b_251_55, hX.fG]
    refine (m_sumO (b := 28) (f := fun k => (thI s.t n).1 (28 + k)) (fun k hk => by rw [h3.w]) (by omega) (by omega)).trans ?_
    rw [am_ans_some, b_251_65]
  · rw [if_neg (by decide), if_pos (by decide), b_141_106, g2, x_s110 (f := fun k => (thI s.t n).1 (36 + k)) (fun k hk => h2.cw.pu k (by omega)) hT10, am_ans_some, b_141_123]
    refine ⟨_, M2, rfl, rfl, mo _ (fun N2 h3 hX => ?_)⟩
    rw [b_251_51, if_pos (by decide), b_251_68, if_neg (by decide), b_251_73, hX.fT]
    refine (m_sumO (b := 36) (f := fun k => (thI s.t n).1 (36 + k)) (fun k hk => by rw [h3.w]) (by omega) (by omega)).trans ?_
    rw [am_ans_some, b_251_83]
  · rw [if_neg (by decide), if_neg (by decide), if_pos (by decide), b_141_124, g0, x_s105 (f := fun k => (thI s.t n).1 (16 + k)) (fun k hk => h2.cw.lo k (by omega)) hL6, am_ans_some, b_141_141]
    refine ⟨_, M2, rfl, rfl, mo _ (fun N2 h3 hX => ?_)⟩
    rw [b_251_51, if_pos (by decide), b_251_68, if_pos (by decide), b_251_86, if_neg (by decide), b_251_91, hX.fL]
    refine (m_sumO (b := 16) (f := fun k => (thI s.t n).1 (16 + k)) (fun k hk => by rw [h3.w]) (by omega) (by omega)).trans ?_
    rw [am_ans_some, b_251_101]
  · rw [if_neg (by decide), if_neg (by decide), if_neg (by decide), b_141_142, g2, x_s111 (f := fun k => (thI s.t n).1 (46 + k)) (fun k hk => h2.cw.ru k (by omega)) hT10, am_ans_some, b_141_159]
    refine ⟨_, M2, rfl, rfl, mo _ (fun N2 h3 hX => ?_)⟩
    rw [b_251_51, if_pos (by decide), b_251_68, if_pos (by decide), b_251_86, if_pos (by decide), b_251_104, hX.fT]
    refine (m_sumO (b := 46) (f := fun k => (thI s.t n).1 (46 + k)) (fun k hk => by rw [h3.w]) (by omega) (by omega)).trans ?_
    rw [am_ans_some]
end
