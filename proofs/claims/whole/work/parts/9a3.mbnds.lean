section
/-! TEXT 3, THE MODEL: its lines, and what becomes of them -/
theorem m_bnds {d nS n N : Nat} {tp : Nat → Nat} {c : CS} {M0 : am_M} {x : Cx} {Q : Option Value → am_H → Prop} (hT : TT tp n N M0) (hL : M0 205 8 = nI x.L) (hG : M0 205 9 = nI x.G) (h6 : x.L ≤ 6) (h8 : x.G ≤ 8) : ∀ (m j : Nat) (t : Bd) (M : am_M), t.1 + m = 17 → t.1 ≤ 16 → PM tp n N j c M M → eX M0 M → UM t M → (∀ er M', gL (kK tp n) 24 Prod.fst (lnB (kK tp n) (kV tp n) x.G x.L) m j t = .error er → FL tp n er M0 M' → Q (some (.int (-1))) (hp nS M')) → (∀ (t' : Bd) M', gL (kK tp n) 24 Prod.fst (lnB (kK tp n) (kV tp n) x.G x.L) m j t = .ok t' → UM t' M' → eX M0 M' → Q (some (.int (nI t'.1))) (hp nS M')) → am_Wp (d + 7) 202 26 [.ref 205, .int (nI t.1)] [] (hp nS M) Q := by
  intro m
  induction m with
  | zero =>
    intro j t M hm h16
    omega
  | succ m ih =>
    intro j t M hm h16 p f r hE hO
    have hk38 := kK_38 tp n j
    have hat := p.a.k
    rw [gL] at hE hO
    have wh : ∀ {Q : Option Value → am_H → Prop}, am_Wp (d + 6) 192 0 [.ref 205, .int 24] [] (hp nS M) Q = Q (some (.int (bI (decide (kK tp n j = 24))))) (hp nS M) := fun {Q} => m_isW (w := 24) p (by decide)
    rw [b_202_26, wh, am_ans_some, b_202_32]
    by_cases cw : kK tp n j = 24
    · have n37 : ¬ kK tp n j = 37 := by omega
      rw [if_neg n37, if_neg (fun z => z cw)] at hE hO
      rw [ifb_t cw, b_202_35]
      by_cases c16 : t.1 = 16
      · rw [if_pos c16] at hE
        rw [if_neg (fun z => z (by rw [c16]; rfl)), b_202_41]
        refine m_err (x := 3) p (fun M' hf => ?_)
        rw [am_ans_some, b_202_46]
        exact hE (3, j) M' rfl (FL_x hf f)
      · rw [if_neg c16] at hE hO
        rw [if_pos (show ¬ nI t.1 = 16 by rw [li, eq_n (by omega) (by omega)]; exact c16), b_202_47]
        refine m_bnd (d := d) (x := x) (TT_x hT f) p cw (by rw [f _ _ (by unfold sX; omega)]; exact hL) (by rw [f _ _ (by unfold sX; omega)]; exact hG) h6 h8 r (fun er M' he hf => ?_) (fun q M' hq hne hf => ?_) (fun q M' hq heq p1 r1 hct f1 => ?_)
        · rw [am_ans_some, b_202_51, if_neg (fun z => z rfl), b_202_55]
          exact hE er M' (by rw [he]) (FL_tr hf f)
        · rw [am_ans_some, b_202_51, if_neg (fun z => z rfl), b_202_55]
          refine hE (1, q.1) M' ?_ (FL_tr hf f)
          rw [hq]
          show (if kK tp n q.1 = 26 then _ else _) = _
          rw [if_neg hne]
        · rw [hq] at hE hO
          have hE : ∀ er M', (if kK tp n q.1 = 26 then gL (kK tp n) 24 Prod.fst (lnB (kK tp n) (kV tp n) x.G x.L) m (q.1 + 1) q.2 else .error (1, q.1) : Except (Nat × Nat) Bd) = .error er → FL tp n er M0 M' → Q (some (.int (-1))) (hp nS M') := hE
          have hO : ∀ (a' : Bd) M', (if kK tp n q.1 = 26 then gL (kK tp n) 24 Prod.fst (lnB (kK tp n) (kV tp n) x.G x.L) m (q.1 + 1) q.2 else .error (1, q.1) : Except (Nat × Nat) Bd) = .ok a' → UM a' M' → eX M0 M' → Q (some (.int (nI a'.1))) (hp nS M') := hO
          rw [if_pos heq] at hE hO
          rw [am_ans_some, b_202_51, if_pos (by decide), b_202_57, nI_1, ← hct]
          exact ih (q.1 + 1) q.2 M' (by omega) (by omega) p1 (eX_tr f1 f) r1 hE hO
    · rw [ifb_f cw, b_202_64]
      by_cases c37 : kK tp n j = 37
      · rw [if_pos c37] at hO
        rw [if_neg (fun z => z ((k_e hat hk38).mpr c37)), b_202_71, b_202_80]
        exact hO t M rfl r f
      · rw [if_neg c37, if_pos cw] at hE
        rw [if_pos (fun z => c37 ((k_e hat hk38).mp z)), b_202_75]
        refine m_err (x := 1) p (fun M' hf => ?_)
        rw [am_ans_some, b_202_80]
        exact hE (1, j) M' rfl (FL_x hf f)
/-- the model clears its rows first -/
theorem m_clr {d nS : Nat} {M : am_M} {Q : Option Value → am_H → Prop} (hQ : ∀ M', (∀ k, k < 8 → M' 224 (8 + k) = 0) → (∀ a q, ¬ (a = 224 ∧ 8 ≤ q) → M' a q = M a q) → am_Wp d 202 26 [.ref 205, .int 0] [] (hp nS M') Q) : am_Wp d 202 0 [.ref 205, .retAddr 0] [] (hp nS M) Q := by
  have key : ∀ m k A, k + m = 8 → (∀ i, i < k → A 224 (8 + i) = 0) → (∀ a q, ¬ (a = 224 ∧ 8 ≤ q) → A a q = M a q) → am_Wp d 202 2 [.ref 205, .int (nI k)] [] (hp nS A) Q := by
    intro m
    induction m with
    | zero =>
      intro k A hk h1 h2
      have hk8 : k = 8 := by omega
      subst hk8
      rw [b_202_2, if_pos (by decide), b_202_24]
      exact hQ A h1 h2
    | succ m ih =>
      intro k A hk h1 h2
      have e8 : (8 : Int32) + nI k = nI (8 + k) := adl 8 k
      rw [b_202_2, if_neg (by rw [li, le_n (by omega) (by omega)]; omega), b_202_8 (by rw [e8]; exact in_n (by omega) (by omega)), e8, cl_n (by omega), nI_1]
      refine ih (k + 1) _ (by omega) (fun i hi => ?_) (fun a q hq => ?_)
      · by_cases e : i = k
        · rw [e, up_same, upd_same]
        · rw [up_pt _ _ (by omega)]; exact h1 i (by omega)
      · rw [up_pt _ _ (by omega)]; exact h2 a q hq
  rw [b_202_0]
  exact key 8 0 M (by omega) (fun i hi => absurd hi (Nat.not_lt_zero i)) (fun a q hq => rfl)
theorem m_oth3 {d nS : Nat} {t : Bd} {M : am_M} {Q : Option Value → am_H → Prop} (hn : t.1 ≤ 16) (hr : UM t M) (hQ : ∀ M', (∀ g, g < 8 → M' 224 g = nI (upB t.2.1 t.2.2 t.1 g)) → M' 205 41 = nI t.1 → M' 205 5 = 0 → (∀ a k, ¬ (a = 224 ∨ (a = 205 ∧ (k = 5 ∨ k = 41))) → M' a k = M a k) → Q none (hp nS M')) : am_Wp d 216 0 [.ref 205, .int 3, .int (nI t.1), .retAddr 0] [] (hp nS M) Q := by
  have e4 : (4 : Int32) * nI t.1 = nI (4 * t.1) := pk_mul 4 t.1
  have key2 : ∀ m k A, k + m = 8 → (∀ i, i < k → A 224 i = M 224 (8 + i)) → (∀ i, 8 ≤ i → A 224 i = M 224 i) → (∀ a q, ¬ a = 224 → A a q = M a q) → am_Wp d 216 57 [.ref 205, .int 3, .int (nI t.1), .int (nI k)] [] (hp nS A) Q := by
    intro m
    induction m with
    | zero =>
      intro k A hk h1 h2 h3
      have hk8 : k = 8 := by omega
      subst hk8
      rw [b_216_57, if_pos (by decide), b_216_89, if_pos (by decide), b_216_99, if_pos (by decide), b_216_109, if_neg (by decide), b_216_114, b_216_119]
      have g : ∀ a q, ¬ (a = 205 ∧ (q = 5 ∨ q = 41)) → am_up (am_up A 205 41 (nI t.1)) 205 5 0 a q = A a q := fun a q hq => by rw [up_pt _ _ (by omega), up_pt _ _ (by omega)]
      refine hQ _ (fun q hq => ?_) ?_ (by rw [up_same, upd_same]) (fun a q hq => ?_)
      · rw [g _ _ (by omega), h1 _ (by omega)]; exact hr q hq
      · rw [up_pt _ _ (by omega), up_same, upd_same]
      · rw [g _ _ (by omega)]; exact h3 a q (by omega)
    | succ m ih =>
      intro k A hk h1 h2 h3
      have e8 : (8 : Int32) + nI k = nI (8 + k) := adl 8 k
      rw [b_216_57, if_neg (by rw [li, le_n (by omega) (by omega)]; omega), b_216_63, if_neg (by decide), b_216_68 (by rw [e8]; exact in_n (by omega) (by omega)) (in_n (by omega) (by omega)), e8, cl_n (by omega), cl_n (by omega), nI_1]
      refine ih (k + 1) _ (by omega) (fun i hi => ?_) (fun i hi => ?_) (fun a q hq => ?_)
      · by_cases e : i = k
        · rw [e, up_same, upd_same]; exact h2 _ (by omega)
        · rw [up_pt _ _ (by omega)]; exact h1 i (by omega)
      · rw [up_pt _ _ (by omega)]; exact h2 i hi
      · rw [up_pt _ _ (by omega)]; exact h3 a q hq
  have key : ∀ m k, k + m = 4 * t.1 → am_Wp d 216 2 [.ref 205, .int 3, .int (nI t.1), .int (nI k)] [] (hp nS M) Q := by
    intro m
    induction m with
    | zero =>
      intro k hk
      rw [b_216_2, e4, if_pos (by rw [le_n (by omega) (by omega)]; omega), b_216_55]
      exact key2 8 0 M (by omega) (fun i hi => absurd hi (Nat.not_lt_zero i)) (fun i hi => rfl) (fun a q hq => rfl)
    | succ m ih =>
      intro k hk
      rw [b_216_2, e4, if_neg (by rw [le_n (by omega) (by omega)]; omega), b_216_9, if_pos (by decide), b_216_29, if_pos (by decide), b_216_49, nI_1]
      exact ih (k + 1) (by omega)
  rw [b_216_0]
  exact key (4 * t.1) 0 (by omega)
end
