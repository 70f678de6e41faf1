/-! THE ROW OF PRICES: the class's midst -/
theorem x_midIn {d nS c i : Nat} {M : am_M} {Q : Option Value → am_H → Prop} (f : Nat → Nat) (hb : ∀ k, f k ≤ 99) (hi : 1 ≤ i) (hic : i < c) (h14 : c ≤ 14)
    (k : ∀ h r, h ≤ i → (∀ j, h ≤ j → j < i → f i < f j) → (h = 0 ∨ f (h - 1) ≤ f i) → (∀ k, k < c → r k = nI (insF f h i k)) → ∀ z2 z3, am_Wp d 71 22 [.ref 45, .int (nI (i + 1)), z2, z3] [] (hp nS (am_row M 47 r)) Q) :
    ∀ h r, h ≤ i → (∀ j, h ≤ j → j < i → f i < f j) → (∀ k, k < c → r k = nI (shF f h i k)) → am_Wp d 71 39 [.ref 45, .int (nI i), .int (nI (f i)), .int (nI h)] [] (hp nS (am_row M 47 r)) Q := by
  intro h
  induction h with
  | zero =>
    intro r h0 h1 h2
    rw [b_71_39, if_pos (by decide), b_71_75 (by first | exact in_n (by omega) (by omega) | (simp only [li, nI_add, pk_mul]; exact in_n (by omega) (by omega))), cl_n (by omega), up_row, nI_1]
    refine k 0 _ (by omega) h1 (Or.inl rfl) (fun j hj => ?_) _ _
    rw [upd_at, h2 j hj]
    unfold shF insF
    by_cases hj0 : j = 0
    · rw [if_pos hj0, if_neg (by omega), if_pos hj0]
    · rw [if_neg hj0, if_neg (show ¬ j ≤ 0 by omega), if_neg (show ¬ j < 0 by omega), if_neg hj0]
  | succ h ih =>
    intro r h0 h1 h2
    have hb1 := hb h
    have hb2 := hb i
    have e1 : nI (h + 1) - 1 = nI h := sub1 (a := h + 1) (by omega)
    have e2 : r h = nI (f h) := by
      rw [h2 h (by omega)]
      unfold shF
      rw [if_pos (by omega)]
    rw [b_71_39, if_neg (by rw [li, le_n (by omega) (by omega)]; omega), b_71_43 (by rw [e1]; exact in_n (by omega) (by omega)), e1, cl_n (by omega), row_same, e2]
    by_cases hl : f i < f h
    · rw [if_neg (by rw [le_n (by omega) (by omega)]; omega), b_71_55 (by rw [e1]; exact in_n (by omega) (by omega)) (by first | exact in_n (by omega) (by omega) | (simp only [li, nI_add, pk_mul]; exact in_n (by omega) (by omega))), e1, cl_n (by omega), cl_n (by omega), row_same, e2, up_row, pk_m1]
      refine ih _ (by omega) (fun j hj1 hj2 => ?_) (fun j hj => ?_)
      · by_cases hj : j = h
        · subst hj; exact hl
        · exact h1 j (by omega) hj2
      · rw [upd_at, h2 j hj]
        unfold shF
        by_cases hj0 : j = h + 1
        · rw [if_pos hj0, if_neg (by omega), if_pos (by omega), hj0]
          rfl
        · rw [if_neg hj0]
          by_cases hj1 : j ≤ h
          · rw [if_pos (by omega), if_pos hj1]
          · rw [if_neg (by omega), if_neg hj1]
    · rw [if_pos (by rw [le_n (by omega) (by omega)]; omega), b_71_75 (by first | exact in_n (by omega) (by omega) | (simp only [li, nI_add, pk_mul]; exact in_n (by omega) (by omega))), cl_n (by omega), up_row, nI_1]
      refine k (h + 1) _ h0 h1 (Or.inr (by show f h ≤ f i; omega)) (fun j hj => ?_) _ _
      rw [upd_at, h2 j hj]
      unfold shF insF
      by_cases hj0 : j = h + 1
      · rw [if_pos hj0, if_neg (by omega), if_pos hj0]
      · rw [if_neg hj0]
        by_cases hj1 : j < h + 1
        · rw [if_pos (by omega), if_pos hj1]
        · rw [if_neg (by omega), if_neg hj1, if_neg hj0]
theorem x_midst {d nS c : Nat} {M : am_M} {Q : Option Value → am_H → Prop} (q : Nat → Nat) (hq : ∀ k, k < c → M 46 k = nI (q k)) (hb : ∀ k, q k ≤ 99) (hc : M 45 1 = nI c) (h0 : 0 < c) (h14 : c ≤ 14) (hQ : ∀ v r, midP q c v → Q (some (.int (nI v))) (hp nS (am_row M 47 r))) : am_Wp (d + 2) 71 0 [.ref 45, .retAddr 0, .retAddr 0, .retAddr 0] [] (hp nS M) Q := by
  have key : ∀ m i f r, i + m = c → 1 ≤ i → sorted f i → (∀ k, f k ≤ 99) → (∀ φ : Nat → Nat, sN (fun k => φ (f k)) c = sN (fun k => φ (q k)) c) → (∀ k, k < c → r k = nI (f k)) → ∀ z2 z3, am_Wp (d + 2) 71 22 [.ref 45, .int (nI i), z2, z3] [] (hp nS (am_row M 47 r)) Q := by
    intro m
    induction m with
    | zero =>
      intro i f r h1 h2 h3 h4 h5 h6 z2 z3
      have hic : i = c := by omega
      subst hic
      have ediv : (nI i - 1) / 2 = nI ((i - 1) / 2) := by
        rw [sub1 (by omega)]
        exact pk_div (by omega) (by decide) (by decide)
      have eM : am_row M 47 r 45 1 = nI i := by rw [row_ne _ _ (by decide), hc]
      rw [b_71_22, eM, if_pos (by rw [le_n (by omega) (by omega)]; omega), b_71_88 (by rw [eM, ediv]; exact in_n (by omega) (by omega)), eM, ediv, cl_n (by omega), row_same, h6 _ (by omega)]
      exact hQ _ _ (sorted_mid h0 h3 h5)
    | succ m ih =>
      intro i f r h1 h2 h3 h4 h5 h6 z2 z3
      have eM : am_row M 47 r 45 1 = nI c := by rw [row_ne _ _ (by decide), hc]
      rw [b_71_22, eM, if_neg (by rw [le_n (by omega) (by omega)]; omega), b_71_30 (by first | exact in_n (by omega) (by omega) | (simp only [li, nI_add, pk_mul]; exact in_n (by omega) (by omega))), cl_n (by omega), row_same, h6 i (by omega)]
      refine x_midIn f h4 h2 (by omega) h14 (fun h r' g1 g2 g3 g4 z2' z3' => ?_) i r (Nat.le_refl _) (fun j j1 j2 => absurd j2 (by omega)) (fun k hk => ?_)
      · refine ih (i + 1) (insF f h i) r' (by omega) (by omega) (ins_sorted g1 h3 g2 g3) (fun k => ?_) (fun φ => ?_) g4 _ _
        · unfold insF
          split
          · exact h4 _
          · split
            · exact h4 _
            · split <;> exact h4 _
        · rw [ins_cnt φ f g1 (by omega)]
          exact h5 φ
      · rw [h6 k hk]
        unfold shF
        by_cases hk' : k ≤ i
        · rw [if_pos hk']
        · rw [if_neg hk', if_neg hk']
  rw [b_71_0, hc, if_pos (by rw [li, eq_n (by omega) (by omega)]; omega), b_71_9, k_46_47, am_ans_none, b_71_20]
  refine key (c - 1) 1 (fun k => if k < c then q k else 0) _ (by omega) (by omega) (fun a b h1 h2 => by omega) (fun k => ?_) (fun φ => ?_) (fun k hk => ?_) _ _
  · show (if k < c then q k else 0) ≤ 99
    split
    · exact hb k
    · omega
  · refine sN_congr _ _ c (fun k hk => ?_)
    show φ (if k < c then q k else 0) = φ (q k)
    rw [if_pos hk]
  · rw [pk_cpy_in (by omega) (by omega), show 0 + (k - 0) = k by omega, hq k hk]
    show nI (q k) = nI (if k < c then q k else 0)
    rw [if_pos hk]
