section
/-! THE IMAGE, the model's side -/
def ad (k : Nat) : Nat × Nat := if k < 136 then (206, k) else if k < 145 then (205, [8, 9, 10, 37, 39, 41, 45, 51, 54].getD (k - 136) 0) else if k < 151 then (209, k - 145) else if k < 191 then ([210, 224, 232, 234, 235].getD ((k - 151) % 5) 0, (k - 151) / 5) else if k < 319 then (222 + (k - 191) % 2, (k - 191) / 2) else if k < 333 then (227, k - 319) else if k < 349 then (229, k - 333) else if k < 949 then (211, k - 349) else if k < 950 then (214, 0) else if k < 1014 then (215 + (k - 950) % 4, (k - 950) / 4) else (219 + (k - 1014) % 2, (k - 1014) / 2)
def ix (a q : Nat) : Nat := if a = 206 then q else if a = 205 then (if q = 8 then 136 else if q = 9 then 137 else if q = 10 then 138 else if q = 37 then 139 else if q = 39 then 140 else if q = 41 then 141 else if q = 45 then 142 else if q = 51 then 143 else 144) else if a = 209 then 145 + q else if a = 210 then 151 + 5 * q else if a = 224 then 152 + 5 * q else if a = 232 then 153 + 5 * q else if a = 234 then 154 + 5 * q else if a = 235 then 155 + 5 * q else if a = 222 then 191 + 2 * q else if a = 223 then 192 + 2 * q else if a = 227 then 319 + q else if a = 229 then 333 + q else if a = 211 then 349 + q else if a = 214 then 949 else if a = 215 then 950 + 4 * q else if a = 216 then 951 + 4 * q else if a = 217 then 952 + 4 * q else if a = 218 then 953 + 4 * q else if a = 219 then 1014 + 2 * q else 1015 + 2 * q
theorem fin_ix : (List.range 1814).all (fun j => decide (ix (ad j).1 (ad j).2 = j)) = true := by decide +kernel
theorem fin_rT : (List.range 1814).all (fun j => decide ((ad j).1 = 206 ∨ ((ad j).1 = 205 ∧ ((ad j).2 = 8 ∨ (ad j).2 = 9 ∨ (ad j).2 = 10 ∨ (ad j).2 = 37 ∨ (ad j).2 = 39 ∨ (ad j).2 = 41 ∨ (ad j).2 = 45 ∨ (ad j).2 = 51 ∨ (ad j).2 = 54)) ∨ (ad j).1 = 209 ∨ (ad j).1 = 210 ∨ (ad j).1 = 211 ∨ (214 ≤ (ad j).1 ∧ (ad j).1 ≤ 220) ∨ (ad j).1 = 222 ∨ (ad j).1 = 223 ∨ (ad j).1 = 224 ∨ (ad j).1 = 227 ∨ (ad j).1 = 229 ∨ (ad j).1 = 232 ∨ (ad j).1 = 234 ∨ (ad j).1 = 235)) = true := by decide +kernel
theorem ad_ix {j : Nat} (hj : j < 1814) : ix (ad j).1 (ad j).2 = j := of_decide_eq_true (List.all_eq_true.mp fin_ix j (List.mem_range.mpr hj))
theorem ad_rT {j : Nat} (hj : j < 1814) : rT (ad j).1 (ad j).2 := by
  unfold rT
  exact of_decide_eq_true (List.all_eq_true.mp fin_rT j (List.mem_range.mpr hj))
theorem ad_inj {i j : Nat} (hi : i < 1814) (hj : j < 1814) (h : ad i = ad j) : i = j := by
  have h1 := ad_ix hi
  rw [h, ad_ix hj] at h1
  exact h1.symm
theorem rT_no {a q : Nat} (h : rT a q) : a ≠ 238 ∧ ¬ (a = 205 ∧ (q = 59 ∨ q = 61)) := by
  unfold rT at h
  omega
abbrev IK (tk : Bool) (k : Nat) (M0 M : am_M) : Prop := (M 205 61 = nI k) ∧ (M 205 59 = bI tk) ∧ (∀ j, j < k → M 238 j = if tk = true then M0 (ad j).1 (ad j).2 else M0 238 j) ∧ (∀ j, j < k → M (ad j).1 (ad j).2 = if tk = true then M0 (ad j).1 (ad j).2 else M0 238 j) ∧ (tk = false → M 238 = M0 238) ∧ (∀ a q, a ≠ 238 → ¬ (a = 205 ∧ (q = 59 ∨ q = 61)) → (∀ j, j < k → ad j ≠ (a, q)) → M a q = M0 a q)
theorem IK.c {tk : Bool} {k : Nat} {M0 M : am_M} (zz : IK tk k M0 M) : M 205 61 = nI k := zz.1
theorem IK.t {tk : Bool} {k : Nat} {M0 M : am_M} (zz : IK tk k M0 M) : M 205 59 = bI tk := zz.2.1
theorem IK.i {tk : Bool} {k : Nat} {M0 M : am_M} (zz : IK tk k M0 M) : ∀ j, j < k → M 238 j = if tk = true then M0 (ad j).1 (ad j).2 else M0 238 j := zz.2.2.1
theorem IK.r {tk : Bool} {k : Nat} {M0 M : am_M} (zz : IK tk k M0 M) : ∀ j, j < k → M (ad j).1 (ad j).2 = if tk = true then M0 (ad j).1 (ad j).2 else M0 238 j := zz.2.2.2.1
theorem IK.n {tk : Bool} {k : Nat} {M0 M : am_M} (zz : IK tk k M0 M) : tk = false → M 238 = M0 238 := zz.2.2.2.2.1
theorem IK.e {tk : Bool} {k : Nat} {M0 M : am_M} (zz : IK tk k M0 M) : ∀ a q, a ≠ 238 → ¬ (a = 205 ∧ (q = 59 ∨ q = 61)) → (∀ j, j < k → ad j ≠ (a, q)) → M a q = M0 a q := zz.2.2.2.2.2
theorem m_kp {d nS k a q : Nat} {tk : Bool} {M0 : am_M} {M : am_M} {Q : Option Value → am_H → Prop} (h : IK tk k M0 M) (hk : k < 1814) (ha : ad k = (a, q)) (hQ : ∀ v M', IK tk (k + 1) M0 (am_up M' a q v) → Q (some (.int v)) (hp nS M')) : am_Wp d 291 0 [.ref 205, .int (M a q)] [] (hp nS M) Q := by
  have hr := ad_rT hk
  rw [ha] at hr
  obtain ⟨n1, n2⟩ := rT_no hr
  have hne : ∀ j, j < k → ad j ≠ (a, q) := fun j hj z => by
    have := ad_inj (by omega) hk (z.trans ha.symm)
    omega
  have hv := h.e a q n1 n2 hne
  have c1 : am_up M 205 61 (nI (k + 1)) 205 61 = nI (k + 1) := by rw [up_same, upd_same]
  have c9 : am_up M 205 61 (nI (k + 1)) 205 59 = bI tk := by rw [up_pt _ _ (by omega)]; exact h.t
  have s1 : nI (k + 1) - 1 = nI k := by rw [sub1 (by omega)]; rfl
  have ro : ∀ j, j < k → (ad j).1 ≠ 238 ∧ ¬ ((ad j).1 = 205 ∧ ((ad j).2 = 59 ∨ (ad j).2 = 61)) ∧ ¬ ((ad j).1 = a ∧ (ad j).2 = q) := fun j hj => by
    obtain ⟨z1, z2⟩ := rT_no (ad_rT (show j < 1814 by omega))
    exact ⟨z1, z2, fun z => hne j hj (Prod.ext z.1 z.2)⟩
  cases tk with
  | true =>
    rw [b_291_0, h.c, nI_1, if_pos (by rw [c9]; decide), b_291_29 (by rw [c1, s1]; exact in_n (by omega) (by omega)), c1, s1, cl_n (by omega)]
    refine hQ _ _ ⟨by rw [up_pt _ _ (by omega), up_pt _ _ (by omega)]; exact c1, by rw [up_pt _ _ (by omega), up_pt _ _ (by omega)]; exact c9, fun j hj => ?_, fun j hj => ?_, fun z => (by cases z), fun a' q' z1 z2 z3 => ?_⟩
    · rw [up_ne _ _ _ (fun z => n1 z.symm), up_same, upd_at]
      by_cases e : j = k
      · rw [if_pos e, if_pos rfl, e, ha]; exact hv
      · rw [if_neg e, up_ne _ _ _ (by decide)]; exact h.i j (by omega)
    · by_cases e : j = k
      · rw [e, ha, up_same, upd_same, if_pos rfl]; exact hv
      · obtain ⟨y1, y2, y3⟩ := ro j (by omega)
        rw [up_pt _ _ y3, up_pt _ _ (by omega), up_pt _ _ (by omega)]; exact h.r j (by omega)
    · have y3 : ¬ (a' = a ∧ q' = q) := fun z => z3 k (by omega) (by rw [ha, z.1, z.2])
      rw [up_pt _ _ y3, up_pt _ _ (by omega), up_pt _ _ (by omega)]
      exact h.e a' q' z1 z2 (fun j hj => z3 j (by omega))
  | false =>
    have c8 : am_up M 205 61 (nI (k + 1)) 238 k = M0 238 k := by rw [up_ne _ _ _ (by decide), h.n rfl]
    rw [b_291_0, h.c, nI_1, if_neg (by rw [c9]; exact fun z => z rfl), b_291_17 (by rw [c1, s1]; exact in_n (by omega) (by omega)), c1, s1, cl_n (by omega), c8]
    refine hQ _ _ ⟨by rw [up_pt _ _ (by omega)]; exact c1, by rw [up_pt _ _ (by omega)]; exact c9, fun j hj => ?_, fun j hj => ?_, fun _ => ?_, fun a' q' z1 z2 z3 => ?_⟩
    · rw [up_ne _ _ _ (fun z => n1 z.symm), up_ne _ _ _ (by decide), if_neg (by decide), h.n rfl]
    · by_cases e : j = k
      · rw [e, ha, up_same, upd_same, if_neg (by decide)]
      · obtain ⟨y1, y2, y3⟩ := ro j (by omega)
        rw [up_pt _ _ y3, up_pt _ _ (by omega)]; exact h.r j (by omega)
    · rw [up_ne _ _ _ (fun z => n1 z.symm), up_ne _ _ _ (by decide)]; exact h.n rfl
    · have y3 : ¬ (a' = a ∧ q' = q) := fun z => z3 k (by omega) (by rw [ha, z.1, z.2])
      rw [up_pt _ _ y3, up_pt _ _ (by omega)]
      exact h.e a' q' z1 z2 (fun j hj => z3 j (by omega))
theorem fin_i_206 : (List.range 136).all (fun k => decide (ad (0 + 1 * k + 0) = (206, k))) = true := by decide +kernel
theorem i_206 {d nS : Nat} {x1 : Int32} {tk : Bool} {M0 : am_M} {Q : Option Value → am_H → Prop} (hQ : ∀ M', IK tk 136 M0 M' → am_Wp (d + 1) 290 64 [.ref 205, .int x1, .int (nI 136)] [] (hp nS M') Q) : ∀ (m k : Nat) (M : am_M), k + m = 136 → IK tk (0 + 1 * k) M0 M → am_Wp (d + 1) 290 35 [.ref 205, .int x1, .int (nI k)] [] (hp nS M) Q := by
  intro m
  induction m with
  | zero =>
    intro k M hk h
    have : k = 136 := by omega
    subst this
    rw [b_290_35, if_pos (by decide)]
    exact hQ M h
  | succ m ih =>
    intro k M hk h
    have ha := List.all_eq_true.mp fin_i_206 k (List.mem_range.mpr (by omega))
    simp only [Bool.and_eq_true, decide_eq_true_eq] at ha
    rw [b_290_35, if_neg (by rw [li, le_n (by omega) (by omega)]; omega), b_290_42 (by first | exact in_n (by omega) (by omega) | (simp only [li, nI_add, pk_mul]; exact in_n (by omega) (by omega))), cl_n (by omega)]
    refine m_kp (k := 0 + 1 * k + 0) h (by omega) ha (fun v1 N1 h1 => ?_)
    rw [am_ans_some, b_290_57 (by first | exact in_n (by omega) (by omega) | (simp only [li, nI_add, pk_mul]; exact in_n (by omega) (by omega))), cl_n (by omega)]
    generalize am_up N1 206 k v1 = K1 at h1 ⊢
    rw [nI_1]
    exact ih (k + 1) K1 (by omega) (by rw [show 0 + 1 * (k + 1) = 0 + 1 * k + 0 + 1 by omega]; exact h1)
theorem fin_i_209 : (List.range 6).all (fun k => decide (ad (145 + 1 * k + 0) = (209, k))) = true := by decide +kernel
theorem i_209 {d nS : Nat} {tk : Bool} {M0 : am_M} {Q : Option Value → am_H → Prop} (hQ : ∀ M', IK tk 151 M0 M' → am_Wp (d + 1) 292 138 [.ref 205, .int (nI 6)] [] (hp nS M') Q) : ∀ (m k : Nat) (M : am_M), k + m = 6 → IK tk (145 + 1 * k) M0 M → am_Wp (d + 1) 292 110 [.ref 205, .int (nI k)] [] (hp nS M) Q := by
  intro m
  induction m with
  | zero =>
    intro k M hk h
    have : k = 6 := by omega
    subst this
    rw [b_292_110, if_pos (by decide)]
    exact hQ M h
  | succ m ih =>
    intro k M hk h
    have ha := List.all_eq_true.mp fin_i_209 k (List.mem_range.mpr (by omega))
    simp only [Bool.and_eq_true, decide_eq_true_eq] at ha
    rw [b_292_110, if_neg (by rw [li, le_n (by omega) (by omega)]; omega), b_292_116 (by first | exact in_n (by omega) (by omega) | (simp only [li, nI_add, pk_mul]; exact in_n (by omega) (by omega))), cl_n (by omega)]
    refine m_kp (k := 145 + 1 * k + 0) h (by omega) ha (fun v1 N1 h1 => ?_)
    rw [am_ans_some, b_292_131 (by first | exact in_n (by omega) (by omega) | (simp only [li, nI_add, pk_mul]; exact in_n (by omega) (by omega))), cl_n (by omega)]
    generalize am_up N1 209 k v1 = K1 at h1 ⊢
    rw [nI_1]
    exact ih (k + 1) K1 (by omega) (by rw [show 145 + 1 * (k + 1) = 145 + 1 * k + 0 + 1 by omega]; exact h1)
theorem fin_i_210 : (List.range 8).all (fun k => decide (ad (151 + 5 * k + 0) = (210, k)) && decide (ad (151 + 5 * k + 1) = (224, k)) && decide (ad (151 + 5 * k + 2) = (232, k)) && decide (ad (151 + 5 * k + 3) = (234, k)) && decide (ad (151 + 5 * k + 4) = (235, k))) = true := by decide +kernel
theorem i_210 {d nS : Nat} {tk : Bool} {M0 : am_M} {Q : Option Value → am_H → Prop} (hQ : ∀ M', IK tk 191 M0 M' → am_Wp (d + 1) 292 232 [.ref 205, .int (nI 8)] [] (hp nS M') Q) : ∀ (m k : Nat) (M : am_M), k + m = 8 → IK tk (151 + 5 * k) M0 M → am_Wp (d + 1) 292 140 [.ref 205, .int (nI k)] [] (hp nS M) Q := by
  intro m
  induction m with
  | zero =>
    intro k M hk h
    have : k = 8 := by omega
    subst this
    rw [b_292_140, if_pos (by decide)]
    exact hQ M h
  | succ m ih =>
    intro k M hk h
    have ha := List.all_eq_true.mp fin_i_210 k (List.mem_range.mpr (by omega))
    simp only [Bool.and_eq_true, decide_eq_true_eq] at ha
    rw [b_292_140, if_neg (by rw [li, le_n (by omega) (by omega)]; omega), b_292_146 (by first | exact in_n (by omega) (by omega) | (simp only [li, nI_add, pk_mul]; exact in_n (by omega) (by omega))), cl_n (by omega)]
    refine m_kp (k := 151 + 5 * k + 0) h (by omega) ha.1.1.1.1 (fun v1 N1 h1 => ?_)
    rw [am_ans_some, b_292_161 (by first | exact in_n (by omega) (by omega) | (simp only [li, nI_add, pk_mul]; exact in_n (by omega) (by omega))) (by first | exact in_n (by omega) (by omega) | (simp only [li, nI_add, pk_mul]; exact in_n (by omega) (by omega))), cl_n (by omega)]
    generalize am_up N1 210 k v1 = K1 at h1 ⊢
    refine m_kp (k := 151 + 5 * k + 1) h1 (by omega) ha.1.1.1.2 (fun v2 N2 h2 => ?_)
    rw [am_ans_some, b_292_177 (by first | exact in_n (by omega) (by omega) | (simp only [li, nI_add, pk_mul]; exact in_n (by omega) (by omega))) (by first | exact in_n (by omega) (by omega) | (simp only [li, nI_add, pk_mul]; exact in_n (by omega) (by omega))), cl_n (by omega)]
    generalize am_up N2 224 k v2 = K2 at h2 ⊢
    refine m_kp (k := 151 + 5 * k + 2) h2 (by omega) ha.1.1.2 (fun v3 N3 h3 => ?_)
    rw [am_ans_some, b_292_193 (by first | exact in_n (by omega) (by omega) | (simp only [li, nI_add, pk_mul]; exact in_n (by omega) (by omega))) (by first | exact in_n (by omega) (by omega) | (simp only [li, nI_add, pk_mul]; exact in_n (by omega) (by omega))), cl_n (by omega)]
    generalize am_up N3 232 k v3 = K3 at h3 ⊢
    refine m_kp (k := 151 + 5 * k + 3) h3 (by omega) ha.1.2 (fun v4 N4 h4 => ?_)
    rw [am_ans_some, b_292_209 (by first | exact in_n (by omega) (by omega) | (simp only [li, nI_add, pk_mul]; exact in_n (by omega) (by omega))) (by first | exact in_n (by omega) (by omega) | (simp only [li, nI_add, pk_mul]; exact in_n (by omega) (by omega))), cl_n (by omega)]
    generalize am_up N4 234 k v4 = K4 at h4 ⊢
    refine m_kp (k := 151 + 5 * k + 4) h4 (by omega) ha.2 (fun v5 N5 h5 => ?_)
    rw [am_ans_some, b_292_225 (by first | exact in_n (by omega) (by omega) | (simp only [li, nI_add, pk_mul]; exact in_n (by omega) (by omega))), cl_n (by omega)]
    generalize am_up N5 235 k v5 = K5 at h5 ⊢
    rw [nI_1]
    exact ih (k + 1) K5 (by omega) (by rw [show 151 + 5 * (k + 1) = 151 + 5 * k + 4 + 1 by omega]; exact h5)
theorem fin_i_222 : (List.range 64).all (fun k => decide (ad (191 + 2 * k + 0) = (222, k)) && decide (ad (191 + 2 * k + 1) = (223, k))) = true := by decide +kernel
theorem i_222 {d nS : Nat} {tk : Bool} {M0 : am_M} {Q : Option Value → am_H → Prop} (hQ : ∀ M', IK tk 319 M0 M' → am_Wp (d + 1) 292 278 [.ref 205, .int (nI 64)] [] (hp nS M') Q) : ∀ (m k : Nat) (M : am_M), k + m = 64 → IK tk (191 + 2 * k) M0 M → am_Wp (d + 1) 292 234 [.ref 205, .int (nI k)] [] (hp nS M) Q := by
  intro m
  induction m with
  | zero =>
    intro k M hk h
    have : k = 64 := by omega
    subst this
    rw [b_292_234, if_pos (by decide)]
    exact hQ M h
  | succ m ih =>
    intro k M hk h
    have ha := List.all_eq_true.mp fin_i_222 k (List.mem_range.mpr (by omega))
    simp only [Bool.and_eq_true, decide_eq_true_eq] at ha
    rw [b_292_234, if_neg (by rw [li, le_n (by omega) (by omega)]; omega), b_292_240 (by first | exact in_n (by omega) (by omega) | (simp only [li, nI_add, pk_mul]; exact in_n (by omega) (by omega))), cl_n (by omega)]
    refine m_kp (k := 191 + 2 * k + 0) h (by omega) ha.1 (fun v1 N1 h1 => ?_)
    rw [am_ans_some, b_292_255 (by first | exact in_n (by omega) (by omega) | (simp only [li, nI_add, pk_mul]; exact in_n (by omega) (by omega))) (by first | exact in_n (by omega) (by omega) | (simp only [li, nI_add, pk_mul]; exact in_n (by omega) (by omega))), cl_n (by omega)]
    generalize am_up N1 222 k v1 = K1 at h1 ⊢
    refine m_kp (k := 191 + 2 * k + 1) h1 (by omega) ha.2 (fun v2 N2 h2 => ?_)
    rw [am_ans_some, b_292_271 (by first | exact in_n (by omega) (by omega) | (simp only [li, nI_add, pk_mul]; exact in_n (by omega) (by omega))), cl_n (by omega)]
    generalize am_up N2 223 k v2 = K2 at h2 ⊢
    rw [nI_1]
    exact ih (k + 1) K2 (by omega) (by rw [show 191 + 2 * (k + 1) = 191 + 2 * k + 1 + 1 by omega]; exact h2)
theorem fin_i_227 : (List.range 14).all (fun k => decide (ad (319 + 1 * k + 0) = (227, k))) = true := by decide +kernel
theorem i_227 {d nS : Nat} {tk : Bool} {M0 : am_M} {Q : Option Value → am_H → Prop} (hQ : ∀ M', IK tk 333 M0 M' → am_Wp (d + 1) 292 308 [.ref 205, .int (nI 14)] [] (hp nS M') Q) : ∀ (m k : Nat) (M : am_M), k + m = 14 → IK tk (319 + 1 * k) M0 M → am_Wp (d + 1) 292 280 [.ref 205, .int (nI k)] [] (hp nS M) Q := by
  intro m
  induction m with
  | zero =>
    intro k M hk h
    have : k = 14 := by omega
    subst this
    rw [b_292_280, if_pos (by decide)]
    exact hQ M h
  | succ m ih =>
    intro k M hk h
    have ha := List.all_eq_true.mp fin_i_227 k (List.mem_range.mpr (by omega))
    simp only [Bool.and_eq_true, decide_eq_true_eq] at ha
    rw [b_292_280, if_neg (by rw [li, le_n (by omega) (by omega)]; omega), b_292_286 (by first | exact in_n (by omega) (by omega) | (simp only [li, nI_add, pk_mul]; exact in_n (by omega) (by omega))), cl_n (by omega)]
    refine m_kp (k := 319 + 1 * k + 0) h (by omega) ha (fun v1 N1 h1 => ?_)
    rw [am_ans_some, b_292_301 (by first | exact in_n (by omega) (by omega) | (simp only [li, nI_add, pk_mul]; exact in_n (by omega) (by omega))), cl_n (by omega)]
    generalize am_up N1 227 k v1 = K1 at h1 ⊢
    rw [nI_1]
    exact ih (k + 1) K1 (by omega) (by rw [show 319 + 1 * (k + 1) = 319 + 1 * k + 0 + 1 by omega]; exact h1)
theorem fin_i_229 : (List.range 16).all (fun k => decide (ad (333 + 1 * k + 0) = (229, k))) = true := by decide +kernel
theorem i_229 {d nS : Nat} {tk : Bool} {M0 : am_M} {Q : Option Value → am_H → Prop} (hQ : ∀ M', IK tk 349 M0 M' → am_Wp (d + 1) 292 338 [.ref 205, .int (nI 16)] [] (hp nS M') Q) : ∀ (m k : Nat) (M : am_M), k + m = 16 → IK tk (333 + 1 * k) M0 M → am_Wp (d + 1) 292 310 [.ref 205, .int (nI k)] [] (hp nS M) Q := by
  intro m
  induction m with
  | zero =>
    intro k M hk h
    have : k = 16 := by omega
    subst this
    rw [b_292_310, if_pos (by decide)]
    exact hQ M h
  | succ m ih =>
    intro k M hk h
    have ha := List.all_eq_true.mp fin_i_229 k (List.mem_range.mpr (by omega))
    simp only [Bool.and_eq_true, decide_eq_true_eq] at ha
    rw [b_292_310, if_neg (by rw [li, le_n (by omega) (by omega)]; omega), b_292_316 (by first | exact in_n (by omega) (by omega) | (simp only [li, nI_add, pk_mul]; exact in_n (by omega) (by omega))), cl_n (by omega)]
    refine m_kp (k := 333 + 1 * k + 0) h (by omega) ha (fun v1 N1 h1 => ?_)
    rw [am_ans_some, b_292_331 (by first | exact in_n (by omega) (by omega) | (simp only [li, nI_add, pk_mul]; exact in_n (by omega) (by omega))), cl_n (by omega)]
    generalize am_up N1 229 k v1 = K1 at h1 ⊢
    rw [nI_1]
    exact ih (k + 1) K1 (by omega) (by rw [show 333 + 1 * (k + 1) = 333 + 1 * k + 0 + 1 by omega]; exact h1)
theorem fin_i_211 : (List.range 600).all (fun k => decide (ad (349 + 1 * k + 0) = (211, k))) = true := by decide +kernel
theorem i_211 {d nS : Nat} {x1 : Int32} {tk : Bool} {M0 : am_M} {Q : Option Value → am_H → Prop} (hQ : ∀ M', IK tk 949 M0 M' → am_Wp (d + 1) 290 99 [.ref 205, .int x1, .int (nI 600)] [] (hp nS M') Q) : ∀ (m k : Nat) (M : am_M), k + m = 600 → IK tk (349 + 1 * k) M0 M → am_Wp (d + 1) 290 70 [.ref 205, .int x1, .int (nI k)] [] (hp nS M) Q := by
  intro m
  induction m with
  | zero =>
    intro k M hk h
    have : k = 600 := by omega
    subst this
    rw [b_290_70, if_pos (by decide)]
    exact hQ M h
  | succ m ih =>
    intro k M hk h
    have ha := List.all_eq_true.mp fin_i_211 k (List.mem_range.mpr (by omega))
    simp only [Bool.and_eq_true, decide_eq_true_eq] at ha
    rw [b_290_70, if_neg (by rw [li, le_n (by omega) (by omega)]; omega), b_290_77 (by first | exact in_n (by omega) (by omega) | (simp only [li, nI_add, pk_mul]; exact in_n (by omega) (by omega))), cl_n (by omega)]
    refine m_kp (k := 349 + 1 * k + 0) h (by omega) ha (fun v1 N1 h1 => ?_)
    rw [am_ans_some, b_290_92 (by first | exact in_n (by omega) (by omega) | (simp only [li, nI_add, pk_mul]; exact in_n (by omega) (by omega))), cl_n (by omega)]
    generalize am_up N1 211 k v1 = K1 at h1 ⊢
    rw [nI_1]
    exact ih (k + 1) K1 (by omega) (by rw [show 349 + 1 * (k + 1) = 349 + 1 * k + 0 + 1 by omega]; exact h1)
theorem fin_i_215 : (List.range 16).all (fun k => decide (ad (950 + 4 * k + 0) = (215, k)) && decide (ad (950 + 4 * k + 1) = (216, k)) && decide (ad (950 + 4 * k + 2) = (217, k)) && decide (ad (950 + 4 * k + 3) = (218, k))) = true := by decide +kernel
theorem i_215 {d nS : Nat} {tk : Bool} {M0 : am_M} {Q : Option Value → am_H → Prop} (hQ : ∀ M', IK tk 1014 M0 M' → am_Wp (d + 1) 293 94 [.ref 205, .int (nI 16)] [] (hp nS M') Q) : ∀ (m k : Nat) (M : am_M), k + m = 16 → IK tk (950 + 4 * k) M0 M → am_Wp (d + 1) 293 18 [.ref 205, .int (nI k)] [] (hp nS M) Q := by
  intro m
  induction m with
  | zero =>
    intro k M hk h
    have : k = 16 := by omega
    subst this
    rw [b_293_18, if_pos (by decide)]
    exact hQ M h
  | succ m ih =>
    intro k M hk h
    have ha := List.all_eq_true.mp fin_i_215 k (List.mem_range.mpr (by omega))
    simp only [Bool.and_eq_true, decide_eq_true_eq] at ha
    rw [b_293_18, if_neg (by rw [li, le_n (by omega) (by omega)]; omega), b_293_24 (by first | exact in_n (by omega) (by omega) | (simp only [li, nI_add, pk_mul]; exact in_n (by omega) (by omega))), cl_n (by omega)]
    refine m_kp (k := 950 + 4 * k + 0) h (by omega) ha.1.1.1 (fun v1 N1 h1 => ?_)
    rw [am_ans_some, b_293_39 (by first | exact in_n (by omega) (by omega) | (simp only [li, nI_add, pk_mul]; exact in_n (by omega) (by omega))) (by first | exact in_n (by omega) (by omega) | (simp only [li, nI_add, pk_mul]; exact in_n (by omega) (by omega))), cl_n (by omega)]
    generalize am_up N1 215 k v1 = K1 at h1 ⊢
    refine m_kp (k := 950 + 4 * k + 1) h1 (by omega) ha.1.1.2 (fun v2 N2 h2 => ?_)
    rw [am_ans_some, b_293_55 (by first | exact in_n (by omega) (by omega) | (simp only [li, nI_add, pk_mul]; exact in_n (by omega) (by omega))) (by first | exact in_n (by omega) (by omega) | (simp only [li, nI_add, pk_mul]; exact in_n (by omega) (by omega))), cl_n (by omega)]
    generalize am_up N2 216 k v2 = K2 at h2 ⊢
    refine m_kp (k := 950 + 4 * k + 2) h2 (by omega) ha.1.2 (fun v3 N3 h3 => ?_)
    rw [am_ans_some, b_293_71 (by first | exact in_n (by omega) (by omega) | (simp only [li, nI_add, pk_mul]; exact in_n (by omega) (by omega))) (by first | exact in_n (by omega) (by omega) | (simp only [li, nI_add, pk_mul]; exact in_n (by omega) (by omega))), cl_n (by omega)]
    generalize am_up N3 217 k v3 = K3 at h3 ⊢
    refine m_kp (k := 950 + 4 * k + 3) h3 (by omega) ha.2 (fun v4 N4 h4 => ?_)
    rw [am_ans_some, b_293_87 (by first | exact in_n (by omega) (by omega) | (simp only [li, nI_add, pk_mul]; exact in_n (by omega) (by omega))), cl_n (by omega)]
    generalize am_up N4 218 k v4 = K4 at h4 ⊢
    rw [nI_1]
    exact ih (k + 1) K4 (by omega) (by rw [show 950 + 4 * (k + 1) = 950 + 4 * k + 3 + 1 by omega]; exact h4)
theorem fin_i_219 : (List.range 400).all (fun k => decide (ad (1014 + 2 * k + 0) = (219, k)) && decide (ad (1014 + 2 * k + 1) = (220, k))) = true := by decide +kernel
theorem i_219 {d nS : Nat} {tk : Bool} {M0 : am_M} {Q : Option Value → am_H → Prop} (hQ : ∀ M', IK tk 1814 M0 M' → am_Wp (d + 1) 293 141 [.ref 205, .int (nI 400)] [] (hp nS M') Q) : ∀ (m k : Nat) (M : am_M), k + m = 400 → IK tk (1014 + 2 * k) M0 M → am_Wp (d + 1) 293 96 [.ref 205, .int (nI k)] [] (hp nS M) Q := by
  intro m
  induction m with
  | zero =>
    intro k M hk h
    have : k = 400 := by omega
    subst this
    rw [b_293_96, if_pos (by decide)]
    exact hQ M h
  | succ m ih =>
    intro k M hk h
    have ha := List.all_eq_true.mp fin_i_219 k (List.mem_range.mpr (by omega))
    simp only [Bool.and_eq_true, decide_eq_true_eq] at ha
    rw [b_293_96, if_neg (by rw [li, le_n (by omega) (by omega)]; omega), b_293_103 (by first | exact in_n (by omega) (by omega) | (simp only [li, nI_add, pk_mul]; exact in_n (by omega) (by omega))), cl_n (by omega)]
    refine m_kp (k := 1014 + 2 * k + 0) h (by omega) ha.1 (fun v1 N1 h1 => ?_)
    rw [am_ans_some, b_293_118 (by first | exact in_n (by omega) (by omega) | (simp only [li, nI_add, pk_mul]; exact in_n (by omega) (by omega))) (by first | exact in_n (by omega) (by omega) | (simp only [li, nI_add, pk_mul]; exact in_n (by omega) (by omega))), cl_n (by omega)]
    generalize am_up N1 219 k v1 = K1 at h1 ⊢
    refine m_kp (k := 1014 + 2 * k + 1) h1 (by omega) ha.2 (fun v2 N2 h2 => ?_)
    rw [am_ans_some, b_293_134 (by first | exact in_n (by omega) (by omega) | (simp only [li, nI_add, pk_mul]; exact in_n (by omega) (by omega))), cl_n (by omega)]
    generalize am_up N2 220 k v2 = K2 at h2 ⊢
    rw [nI_1]
    exact ih (k + 1) K2 (by omega) (by rw [show 1014 + 2 * (k + 1) = 1014 + 2 * k + 1 + 1 by omega]; exact h2)
theorem m_told {d nS : Nat} {tk : Bool} {M0 : am_M} {M : am_M} {Q : Option Value → am_H → Prop} (h : IK tk 136 M0 M) (hQ : ∀ M', IK tk 349 M0 M' → Q none (hp nS M')) : am_Wp (d + 1) 292 0 [.ref 205, .retAddr 0] [] (hp nS M) Q := by
  rw [b_292_0]
  refine m_kp (k := 136) h (by omega) (by decide) (fun v1 N1 h1 => ?_)
  rw [am_ans_some, b_292_9]
  generalize am_up N1 205 8 v1 = K1 at h1 ⊢
  refine m_kp (k := 137) h1 (by omega) (by decide) (fun v2 N2 h2 => ?_)
  rw [am_ans_some, b_292_21]
  generalize am_up N2 205 9 v2 = K2 at h2 ⊢
  refine m_kp (k := 138) h2 (by omega) (by decide) (fun v3 N3 h3 => ?_)
  rw [am_ans_some, b_292_33]
  generalize am_up N3 205 10 v3 = K3 at h3 ⊢
  refine m_kp (k := 139) h3 (by omega) (by decide) (fun v4 N4 h4 => ?_)
  rw [am_ans_some, b_292_45]
  generalize am_up N4 205 37 v4 = K4 at h4 ⊢
  refine m_kp (k := 140) h4 (by omega) (by decide) (fun v5 N5 h5 => ?_)
  rw [am_ans_some, b_292_57]
  generalize am_up N5 205 39 v5 = K5 at h5 ⊢
  refine m_kp (k := 141) h5 (by omega) (by decide) (fun v6 N6 h6 => ?_)
  rw [am_ans_some, b_292_69]
  generalize am_up N6 205 41 v6 = K6 at h6 ⊢
  refine m_kp (k := 142) h6 (by omega) (by decide) (fun v7 N7 h7 => ?_)
  rw [am_ans_some, b_292_81]
  generalize am_up N7 205 45 v7 = K7 at h7 ⊢
  refine m_kp (k := 143) h7 (by omega) (by decide) (fun v8 N8 h8 => ?_)
  rw [am_ans_some, b_292_93]
  generalize am_up N8 205 51 v8 = K8 at h8 ⊢
  refine m_kp (k := 144) h8 (by omega) (by decide) (fun v9 N9 h9 => ?_)
  rw [am_ans_some, b_292_105]
  generalize am_up N9 205 54 v9 = K9 at h9 ⊢
  refine i_209 (fun A1 g1 => ?_) 6 0 K9 (by omega) h9
  rw [b_292_138]
  refine i_210 (fun A2 g2 => ?_) 8 0 A1 (by omega) g1
  rw [b_292_232]
  refine i_222 (fun A3 g3 => ?_) 64 0 A2 (by omega) g2
  rw [b_292_278]
  refine i_227 (fun A4 g4 => ?_) 14 0 A3 (by omega) g3
  rw [b_292_308]
  refine i_229 (fun A5 g5 => ?_) 16 0 A4 (by omega) g4
  rw [b_292_338]
  exact hQ A5 g5
theorem m_klaw {d nS : Nat} {tk : Bool} {M0 : am_M} {M : am_M} {Q : Option Value → am_H → Prop} (h : IK tk 949 M0 M) (hQ : ∀ M', IK tk 1814 M0 M' → Q none (hp nS M')) : am_Wp (d + 1) 293 0 [.ref 205, .retAddr 0] [] (hp nS M) Q := by
  rw [b_293_0]
  refine m_kp (k := 949) h (by omega) (by decide) (fun v1 N1 h1 => ?_)
  rw [am_ans_some, b_293_15 (show vp_in (0 : Int32) 2 from in_n (a := 0) (by omega) (by omega)), show (0 : Int32).toNatClampNeg = 0 from by decide]
  generalize am_up N1 214 0 v1 = K1 at h1 ⊢
  refine i_215 (fun A1 g1 => ?_) 16 0 K1 (by omega) h1
  rw [b_293_94]
  refine i_219 (fun A2 g2 => ?_) 400 0 A1 (by omega) g1
  rw [b_293_141]
  exact hQ A2 g2
theorem m_img {d nS : Nat} {x1 : Int32} {tk : Bool} {M0 : am_M} {M : am_M} {Q : Option Value → am_H → Prop} (h : IK tk 0 M0 M) (hQ : ∀ M', IK tk 1814 M0 M' → am_Wp (d + 2) 290 103 [.ref 205, .int x1, .int (nI 600)] [] (hp nS M') Q) : am_Wp (d + 2) 290 35 [.ref 205, .int x1, .int 0] [] (hp nS M) Q := by
  refine i_206 (d := d + 1) (fun A1 g1 => ?_) 136 0 M (by omega) h
  rw [b_290_64]
  refine m_told g1 (fun A2 g2 => ?_)
  rw [am_ans_none, b_290_68]
  refine i_211 (d := d + 1) (fun A3 g3 => ?_) 600 0 A2 (by omega) g2
  rw [b_290_99]
  refine m_klaw g3 (fun A4 g4 => ?_)
  rw [am_ans_none]
  exact hQ A4 g4
end
