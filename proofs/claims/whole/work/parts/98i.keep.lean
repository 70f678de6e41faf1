section
/-! WHAT CAN BE UNDONE -/
def kpn (n : Nat) : Nat := if n < 6 then n + 1 else 6
def kpw (n : Nat) (pw : Nat → Rw) (W : Rw) (i : Nat) : Rw := if n < 6 then (if i = n then W else pw i) else (if i = 5 then W else pw (i + 1))
def sK (s : St) : St := (s.t, kpn s.n, (s.q + 1) % 6, kpw s.n s.pw s.t.W, s.len, s.tp, s.fk, s.fp, s.kept, s.tk)
def sU (s : St) : St := (tX s.t s.t.x (s.pw (s.n - 1)), s.n - 1, (s.q + 5) % 6, s.pw, s.len, s.tp, s.fk, s.fp, s.kept, s.tk)
theorem GI_K {c : Nat} {s : St} (h : GI c s) : GI c (sK s) := by
  have h6 := h.n6
  refine ⟨h.t, ?_, Nat.mod_lt _ (by omega), fun i hi => ?_, h.l4, h.tp, h.kt⟩
  · show kpn s.n ≤ 6
    unfold kpn
    split <;> omega
  · have hi : i < kpn s.n := hi
    show WG c s.t.x (kpw s.n s.pw s.t.W i)
    unfold kpn at hi
    unfold kpw
    by_cases e : s.n < 6
    · rw [if_pos e] at hi ⊢
      by_cases e2 : i = s.n
      · rw [if_pos e2]; exact h.t.wg
      · rw [if_neg e2]; exact h.pw i (by omega)
    · rw [if_neg e] at hi ⊢
      by_cases e2 : i = 5
      · rw [if_pos e2]; exact h.t.wg
      · rw [if_neg e2]; exact h.pw (i + 1) (by omega)
theorem x_keep {nS d c : Nat} {Mi : am_M} {s : St} {M : am_M} {Q : Option Value → am_H → Prop} (hC : CI Mi M s) (hG : GI c s) (hQ : ∀ M', CI Mi M' (sK s) → Fc M M' → Q none (hp nS M')) : am_Wp (d + 3) 38 0 [.ref 113, .ref 18] [] (hp nS M) Q := by
  have h6 := hG.n6
  have hq6 := hG.q6
  have fin : ∀ M', wcs (115 + 12 * s.q) 18 11 M M' → am_Wp (d + 3) 38 13 [.ref 113, .ref 18] [] (hp nS M') Q := by
    intro M' h
    have p1 : M' 113 1 = nI s.q := by rw [h.e 113 (by omega)]; exact hC.pq
    have p2 : M' 113 2 = nI s.n := by rw [h.e 113 (by omega)]; exact hC.pc
    have eq1 : nI (s.q + 1) - nI (s.q + 1) / 6 * 6 = nI ((s.q + 1) % 6) := pk_rem (by omega) (by decide) (by decide)
    have eq2 : (if nI (s.n + 1) < 6 then nI (s.n + 1) else (6 : Int32)) = nI (kpn s.n) := by
      unfold kpn
      by_cases e : s.n < 6
      · rw [if_pos e]
        by_cases e2 : s.n = 5
        · rw [if_neg (by rw [li, lt_n (by omega) (by omega)]; omega), e2]; rfl
        · rw [if_pos (by rw [li, lt_n (by omega) (by omega)]; omega)]
      · rw [if_neg e, if_neg (by rw [li, lt_n (by omega) (by omega)]; omega)]; rfl
    rw [b_38_13, p1, nI_1, eq1, up_pt _ _ (by omega), p2, nI_1, c_296, eq2, am_ans_some, b_38_38]
    have e0 : ∀ a, a ≠ 113 → ¬ (115 + 12 * s.q ≤ a ∧ a ≤ 115 + 12 * s.q + 11) → am_up (am_up M' 113 1 (nI ((s.q + 1) % 6))) 113 2 (nI (kpn s.n)) a = M a := fun a h1 h2 => by rw [up_ne _ _ _ h1, up_ne _ _ _ h1]; exact h.e a h2
    have e1 : ∀ a, a ≠ 113 → am_up (am_up M' 113 1 (nI ((s.q + 1) % 6))) 113 2 (nI (kpn s.n)) a = M' a := fun a h1 => by rw [up_ne _ _ _ h1, up_ne _ _ _ h1]
    have f1 : am_up (am_up M' 113 1 (nI ((s.q + 1) % 6))) 113 2 (nI (kpn s.n)) 113 1 = nI ((s.q + 1) % 6) := by rw [up_pt _ _ (by omega), up_same, upd_same]
    have f2 : am_up (am_up M' 113 1 (nI ((s.q + 1) % 6))) 113 2 (nI (kpn s.n)) 113 2 = nI (kpn s.n) := by rw [up_same, upd_same]
    generalize am_up (am_up M' 113 1 (nI ((s.q + 1) % 6))) 113 2 (nI (kpn s.n)) = M2 at *
    have fresh : CW (115 + 12 * s.q) M2 s.t.x s.t.W := CW_of (CW_cpy h hC.tw.w hG.t.G8) (fun a h1 h2 => e1 a (by omega))
    have old : ∀ i, i < s.n → ¬ (s.q + 6 - s.n + i) % 6 = s.q → CW (115 + 12 * ((s.q + 6 - s.n + i) % 6)) M2 s.t.x (s.pw i) := fun i hi hne => CW_of (hC.pw i hi) (fun a h1 h2 => e0 a (by omega) (by omega))
    refine hQ M2 ⟨CT_of hC.tw (by omega) (fun a k h1 h2 h3 => by rw [e0 a (by omega) (by omega)]), f2, f1, fun i hi => ?_, by rw [e0 187 (by omega) (by omega)]; exact hC.ln, by rw [e0 198 (by omega) (by omega)]; exact hC.tp, by rw [e0 187 (by omega) (by omega)]; exact hC.fk, by rw [e0 187 (by omega) (by omega)]; exact hC.fp, by rw [e0 16 (by omega) (by omega)]; exact hC.kp, fun hk => CT_of (hC.kt hk) (by omega) (fun a k h1 h2 h3 => by rw [e0 a (by omega) (by omega)]), fun a ha => by rw [e0 a (by omega) (by omega)]; exact hC.lo a ha⟩ (fun a ha => e0 a (by omega) (by omega))
    have hi : i < kpn s.n := hi
    show CW (115 + 12 * (((s.q + 1) % 6 + 6 - kpn s.n + i) % 6)) M2 s.t.x (kpw s.n s.pw s.t.W i)
    unfold kpn at hi ⊢
    unfold kpw
    by_cases e : s.n < 6
    · rw [if_pos e] at hi ⊢
      rw [if_pos e]
      by_cases e2 : i = s.n
      · rw [if_pos e2, show ((s.q + 1) % 6 + 6 - (s.n + 1) + i) % 6 = s.q by omega]; exact fresh
      · rw [if_neg e2, show ((s.q + 1) % 6 + 6 - (s.n + 1) + i) % 6 = (s.q + 6 - s.n + i) % 6 by omega]; exact old i (by omega) (by omega)
    · rw [if_neg e] at hi ⊢
      rw [if_neg e]
      by_cases e2 : i = 5
      · rw [if_pos e2, show ((s.q + 1) % 6 + 6 - 6 + i) % 6 = s.q by omega]; exact fresh
      · rw [if_neg e2, show ((s.q + 1) % 6 + 6 - 6 + i) % 6 = (s.q + 6 - s.n + (i + 1)) % 6 by omega]; exact old (i + 1) (by omega) (by omega)
  have : s.q = 0 ∨ s.q = 1 ∨ s.q = 2 ∨ s.q = 3 ∨ s.q = 4 ∨ s.q = 5 := by omega
  rcases this with e | e | e | e | e | e
  · rw [e] at fin
    rw [b_38_0 (by rw [hC.pq]; exact in_n (by omega) (by omega)), hC.pq, e, if_pos (by decide), b_38_9]
    exact w_115_18 (fun M' h => by rw [am_ans_none]; exact fin M' h)
  · rw [e] at fin
    rw [b_38_0 (by rw [hC.pq]; exact in_n (by omega) (by omega)), hC.pq, e, if_neg (by decide), if_pos (by decide), b_38_9v1]
    exact w_127_18 (fun M' h => by rw [am_ans_none]; exact fin M' h)
  · rw [e] at fin
    rw [b_38_0 (by rw [hC.pq]; exact in_n (by omega) (by omega)), hC.pq, e, if_neg (by decide), if_neg (by decide), if_pos (by decide), b_38_9v2]
    exact w_139_18 (fun M' h => by rw [am_ans_none]; exact fin M' h)
  · rw [e] at fin
    rw [b_38_0 (by rw [hC.pq]; exact in_n (by omega) (by omega)), hC.pq, e, if_neg (by decide), if_neg (by decide), if_neg (by decide), if_pos (by decide), b_38_9v3]
    exact w_151_18 (fun M' h => by rw [am_ans_none]; exact fin M' h)
  · rw [e] at fin
    rw [b_38_0 (by rw [hC.pq]; exact in_n (by omega) (by omega)), hC.pq, e, if_neg (by decide), if_neg (by decide), if_neg (by decide), if_neg (by decide), if_pos (by decide), b_38_9v4]
    exact w_163_18 (fun M' h => by rw [am_ans_none]; exact fin M' h)
  · rw [e] at fin
    rw [b_38_0 (by rw [hC.pq]; exact in_n (by omega) (by omega)), hC.pq, e, if_neg (by decide), if_neg (by decide), if_neg (by decide), if_neg (by decide), if_neg (by decide), b_38_9v5]
    exact w_175_18 (fun M' h => by rw [am_ans_none]; exact fin M' h)
/-! the model keeps -/
theorem m_shift {d nS : Nat} {r0 : Rw} {M : am_M} {Q : Option Value → am_H → Prop} (h5 : M 205 5 = 5) (hQ : ∀ r : Rw, (∀ j, r j = if j < 680 then r0 (j + 136) else r0 j) → am_Wp d 223 55 [.ref 205, .int (nI 680)] [] (hp nS (am_row M 207 r)) Q) : ∀ (m k : Nat) (r : Rw), k + m = 680 → (∀ j, r j = if j < k then r0 (j + 136) else r0 j) → am_Wp d 223 21 [.ref 205, .int (nI k)] [] (hp nS (am_row M 207 r)) Q := by
  have e5 : ∀ r : Rw, (136 : Int32) * am_row M 207 r 205 5 = nI 680 := fun r => by rw [row_ne _ _ (by decide), h5]; decide
  intro m
  induction m with
  | zero =>
    intro k r hk hr
    have : k = 680 := by omega
    subst this
    rw [b_223_21, e5, if_pos (Int32.le_refl _)]
    exact hQ r hr
  | succ m ih =>
    intro k r hk hr
    have a136 : nI k + 136 = nI (k + 136) := nI_add _ 136
    rw [b_223_21, e5, if_neg (by rw [le_n (by omega) (by omega)]; omega), b_223_33 (by rw [a136]; exact in_n (by omega) (by omega)) (by first | exact in_n (by omega) (by omega) | (simp only [li, nI_add, pk_mul]; exact in_n (by omega) (by omega))), a136, cl_n (by omega), cl_n (by omega), up_row, row_same, nI_1]
    refine ih (k + 1) _ (by omega) (fun j => ?_)
    have e1 : r (k + 136) = r0 (k + 136) := by rw [hr, if_neg (by omega)]
    rw [upd_at, e1]
    by_cases e : j = k
    · rw [if_pos e, if_pos (by omega), e]
    · rw [if_neg e, hr j]
      by_cases e2 : j < k
      · rw [if_pos e2, if_pos (by omega)]
      · rw [if_neg e2, if_neg (by omega)]
theorem m_putW {d nS n : Nat} {r0 : Rw} {M : am_M} {Q : Option Value → am_H → Prop} (h5 : M 205 5 = nI n) (hn : n ≤ 5) (hQ : ∀ r : Rw, (∀ j, r j = if 136 * n ≤ j ∧ j < 136 * n + 136 then M 206 (j - 136 * n) else r0 j) → am_Wp d 223 91 [.ref 205, .int (nI 136)] [] (hp nS (am_row M 207 r)) Q) : ∀ (m k : Nat) (r : Rw), k + m = 136 → (∀ j, r j = if 136 * n ≤ j ∧ j < 136 * n + k then M 206 (j - 136 * n) else r0 j) → am_Wp d 223 57 [.ref 205, .int (nI k)] [] (hp nS (am_row M 207 r)) Q := by
  have e5 : ∀ (r : Rw) k, (136 : Int32) * am_row M 207 r 205 5 + nI k = nI (136 * n + k) := fun r k => by rw [row_ne _ _ (by decide), h5, show (136 : Int32) * nI n = nI (136 * n) from pk_mul 136 n, nI_add]
  intro m
  induction m with
  | zero =>
    intro k r hk hr
    have : k = 136 := by omega
    subst this
    rw [b_223_57, if_pos (by decide)]
    exact hQ r hr
  | succ m ih =>
    intro k r hk hr
    rw [b_223_57, if_neg (by rw [li, le_n (by omega) (by omega)]; omega), b_223_64 (by first | exact in_n (by omega) (by omega) | (simp only [li, nI_add, pk_mul]; exact in_n (by omega) (by omega))) (by rw [e5]; exact in_n (by omega) (by omega)), e5, cl_n (by omega), cl_n (by omega), up_row, row_ne _ _ (show (206 : Nat) ≠ 207 by decide), nI_1]
    refine ih (k + 1) _ (by omega) (fun j => ?_)
    rw [upd_at]
    by_cases e : j = 136 * n + k
    · rw [if_pos e, if_pos (by omega), e, show 136 * n + k - 136 * n = k by omega]
    · rw [if_neg e, hr j]
      by_cases e2 : 136 * n ≤ j ∧ j < 136 * n + k
      · rw [if_pos e2, if_pos (by omega)]
      · rw [if_neg e2, if_neg (by omega)]
theorem MI_K {M M' : am_M} {s : St} {c : Nat} (h : MI M s) (hG : GI c s) (h5 : M' 205 5 = nI (kpn s.n)) (hp' : ∀ i, i < kpn s.n → ∀ k, k < 136 → M' 207 (136 * i + k) = kpw s.n s.pw s.t.W i k) (e : ∀ a k, ¬ (a = 207 ∨ (a = 205 ∧ k = 5)) → M' a k = M a k) : MI M' (sK s) := by
  have r : ∀ a, a ≠ 207 → a ≠ 205 → M' a = M a := fun a h1 h2 => funext fun k => e a k (by omega)
  have eq : eqM M M' := ⟨e _ _ (by omega), e _ _ (by omega), e _ _ (by omega), e _ _ (by omega), e _ _ (by omega), e _ _ (by omega), e _ _ (by omega), e _ _ (by omega), e _ _ (by omega), e _ _ (by omega), fun k _ => e _ _ (by omega), fun k _ => e _ _ (by omega), fun k _ => e _ _ (by omega), fun k _ => e _ _ (by omega), fun k _ => e _ _ (by omega), fun k _ => e _ _ (by omega), fun k _ => e _ _ (by omega), fun k _ => e _ _ (by omega), fun k _ => e _ _ (by omega), fun k _ => e _ _ (by omega), fun k _ => e _ _ (by omega), fun k _ => e _ _ (by omega), fun k _ => e _ _ (by omega), fun k _ => e _ _ (by omega), fun k _ => e _ _ (by omega), fun k _ => e _ _ (by omega), fun k _ => e _ _ (by omega), fun k _ => e _ _ (by omega)⟩
  exact ⟨MTV_of h.tw (GT_bd hG.t) eq, h5, hp', by rw [e _ _ (by omega)]; exact h.th, by rw [e _ _ (by omega)]; exact h.ln, fun k hk => by rw [e _ _ (by omega)]; exact h.tp k hk, by rw [e _ _ (by omega)]; exact h.fk, by rw [e _ _ (by omega)]; exact h.fp, by rw [e _ _ (by omega)]; exact h.kp, fun hk => MTV_of (h.kt hk) (GT_bd (hG.kt hk)) (unp_of (r 238 (by omega) (by omega))), fun k hk => by rw [e _ _ (by omega)]; exact h.wd k hk, fun k hk => by rw [e _ _ (by omega)]; exact h.t0 k hk, fun k hk => by rw [e _ _ (by omega)]; exact h.t1 k hk⟩
theorem m_keep {nS d c : Nat} {s : St} {M : am_M} {Q : Option Value → am_H → Prop} (hM : MI M s) (hG : GI c s) (hQ : ∀ M', MI M' (sK s) → Fm M M' → M' 206 = M 206 → M' 211 = M 211 → Q none (hp nS M')) : am_Wp d 223 0 [.ref 205, .retAddr 0] [] (hp nS M) Q := by
  have h6 := hG.n6
  have fin : ∀ (n : Nat) (N : am_M) (r0 : Rw), n ≤ 5 → n + 1 = kpn s.n → N 205 5 = nI n → (∀ a k, ¬ (a = 207 ∨ (a = 205 ∧ k = 5)) → N a k = M a k) → (∀ i, i < n → ∀ k, k < 136 → r0 (136 * i + k) = kpw s.n s.pw s.t.W i k) → kpw s.n s.pw s.t.W n = s.t.W → am_Wp d 223 57 [.ref 205, .int (nI 0)] [] (hp nS (am_row N 207 r0)) Q := by
    intro n N r0 hn hk h5 e hr hW
    refine m_putW h5 hn (fun r hr' => ?_) 136 0 r0 (by omega) (fun j => by rw [if_neg (by omega)])
    have f5 : am_row N 207 r 205 5 = nI n := by rw [row_ne _ _ (by decide), h5]
    rw [b_223_91, f5, nI_1, hk]
    have g : ∀ a k, ¬ (a = 207 ∨ (a = 205 ∧ k = 5)) → am_up (am_row N 207 r) 205 5 (nI (kpn s.n)) a k = M a k := fun a k h => by rw [up_pt _ _ (by omega), row_pt _ _ _ (by omega)]; exact e a k h
    refine hQ _ (MI_K hM hG (by rw [up_same, upd_same]) (fun i hi k hk' => ?_) g) (fun a ha => funext fun k => g a k (by omega)) (funext fun k => g 206 k (by omega)) (funext fun k => g 211 k (by omega))
    rw [up_ne _ _ _ (by decide), row_same, hr']
    by_cases ei : i = n
    · subst ei
      rw [if_pos (by omega), show 136 * i + k - 136 * i = k by omega, hW, e 206 k (by omega)]
      exact hM.tw.w k hk'
    · rw [if_neg (by omega)]
      exact hr i (by omega) k hk'
  rw [b_223_0, hM.pc]
  by_cases e6 : s.n = 6
  · have kn : kpn s.n = 6 := by unfold kpn; rw [if_neg (by omega)]
    rw [if_neg (fun z => z (by rw [e6]; rfl)), b_223_9, hM.pc, e6, show nI 6 - 1 = (5 : Int32) by decide]
    have f5 : am_up M 205 5 5 205 5 = 5 := by rw [up_same, upd_same]
    have := m_shift (d := d) (nS := nS) (r0 := M 207) (M := am_up M 205 5 5) (Q := Q) f5 (fun r hr => ?_) 680 0 (M 207) (by omega) (fun j => by rw [if_neg (by omega)])
    · rw [show am_row (am_up M 205 5 5) 207 (M 207) = am_up M 205 5 5 from by
        have := row_id (am_up M 205 5 5) 207
        rw [up_ne _ _ _ (show (207 : Nat) ≠ 205 by decide)] at this
        exact this] at this
      exact this
    · rw [b_223_55]
      refine fin 5 (am_up M 205 5 5) r (by omega) (by omega) f5 (fun a k h => up_pt _ _ (by omega)) (fun i hi k hk => ?_) ?_
      · rw [hr, if_pos (by omega), show 136 * i + k + 136 = 136 * (i + 1) + k by omega, hM.pw (i + 1) (by omega) k hk]
        unfold kpw
        rw [if_neg (by omega), if_neg (by omega)]
      · unfold kpw
        rw [if_neg (by omega), if_pos rfl]
  · have kn : kpn s.n = s.n + 1 := by unfold kpn; rw [if_pos (by omega)]
    rw [if_pos (show ¬ nI s.n = 6 by rw [li, eq_n (by omega) (by omega)]; exact e6), b_223_55]
    have := fin s.n M (M 207) (by omega) kn.symm hM.pc (fun _ _ _ => rfl) (fun i hi k hk => ?_) ?_
    · rw [row_id] at this
      exact this
    · rw [hM.pw i hi k hk]
      unfold kpw
      rw [if_pos (by omega), if_neg (by omega)]
    · unfold kpw
      rw [if_pos (by omega), if_pos rfl]
end
