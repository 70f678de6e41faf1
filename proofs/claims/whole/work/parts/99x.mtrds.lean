section
/-! TEXT 2, THE MODEL: its lines, and what becomes of them -/
theorem m_trds {d nS n N : Nat} {tp : Nat → Nat} {c : CS} {M0 : am_M} {x : Cx} {Q : Option Value → am_H → Prop} (hT : TT tp n N M0) (hL : M0 205 10 = nI x.T) (hG : M0 205 9 = nI x.G) (h6 : x.T ≤ 10) (h8 : x.G ≤ 8) : ∀ (m j : Nat) (dn : Tr) (M : am_M), dn.n + m = 17 → dn.n ≤ 16 → PM tp n N j c M M → eX M0 M → RM dn M → (∀ er M', gL (kK tp n) 16 Tr.n (lnT (kK tp n) (kV tp n) x.T x.G) m j dn = .error er → FL tp n er M0 M' → Q (some (.int (-1))) (hp nS M')) → (∀ dn' M', gL (kK tp n) 16 Tr.n (lnT (kK tp n) (kV tp n) x.T x.G) m j dn = .ok dn' → RM dn' M' → eX M0 M' → Q (some (.int (nI dn'.n))) (hp nS M')) → am_Wp (d + 7) 200 2 [.ref 205, .int (nI dn.n)] [] (hp nS M) Q := by
  intro m
  induction m with
  | zero =>
    intro j dn M hm h16
    omega
  | succ m ih =>
    intro j dn M hm h16 p f r hE hO
    have hk38 := kK_38 tp n j
    have hat := p.a.k
    rw [gL] at hE hO
    have wh : ∀ {Q : Option Value → am_H → Prop}, am_Wp (d + 6) 192 0 [.ref 205, .int 16] [] (hp nS M) Q = Q (some (.int (bI (decide (kK tp n j = 16))))) (hp nS M) := fun {Q} => m_isW (w := 16) p (by decide)
    rw [b_200_2, wh, am_ans_some, b_200_8]
    by_cases cw : kK tp n j = 16
    · have n37 : ¬ kK tp n j = 37 := by omega
      rw [if_neg n37, if_neg (fun z => z cw)] at hE hO
      rw [ifb_t cw, b_200_11]
      by_cases c16 : dn.n = 16
      · rw [if_pos c16] at hE
        rw [if_neg (fun z => z (by rw [c16]; rfl)), b_200_17]
        refine m_err (x := 3) p (fun M' hf => ?_)
        rw [am_ans_some, b_200_22]
        exact hE (3, j) M' rfl (FL_x hf f)
      · rw [if_neg c16] at hE hO
        rw [if_pos (show ¬ nI dn.n = 16 by rw [li, eq_n (by omega) (by omega)]; exact c16), b_200_23, at4]
        refine m_trd (d := d) (x := x) (TT_x hT f) p cw (by omega) (by rw [f _ _ (by unfold sX; omega)]; exact hL) (by rw [f _ _ (by unfold sX; omega)]; exact hG) h6 h8 r (fun er M' he hf => ?_) (fun q M' hq hne hf => ?_) (fun q M' hq heq p1 r1 hct f1 => ?_)
        · rw [am_ans_some, b_200_33, if_neg (fun z => z rfl), b_200_37]
          exact hE er M' (by rw [he]) (FL_tr hf f)
        · rw [am_ans_some, b_200_33, if_neg (fun z => z rfl), b_200_37]
          refine hE (1, q.1) M' ?_ (FL_tr hf f)
          rw [hq]
          show (if kK tp n q.1 = 26 then _ else _) = _
          rw [if_neg hne]
        · rw [hq] at hE hO
          have hE : ∀ er M', (if kK tp n q.1 = 26 then gL (kK tp n) 16 Tr.n (lnT (kK tp n) (kV tp n) x.T x.G) m (q.1 + 1) q.2 else .error (1, q.1) : Except (Nat × Nat) Tr) = .error er → FL tp n er M0 M' → Q (some (.int (-1))) (hp nS M') := hE
          have hO : ∀ a' M', (if kK tp n q.1 = 26 then gL (kK tp n) 16 Tr.n (lnT (kK tp n) (kV tp n) x.T x.G) m (q.1 + 1) q.2 else .error (1, q.1) : Except (Nat × Nat) Tr) = .ok a' → RM a' M' → eX M0 M' → Q (some (.int (nI a'.n))) (hp nS M') := hO
          rw [if_pos heq] at hE hO
          rw [am_ans_some, b_200_33, if_pos m1n, b_200_39, nI_1, ← hct]
          exact ih (q.1 + 1) q.2 M' (by omega) (by omega) p1 (eX_tr f1 f) r1 hE hO
    · rw [ifb_f cw, b_200_46]
      by_cases c37 : kK tp n j = 37
      · rw [if_pos c37] at hO
        rw [if_neg (fun z => z ((k_e hat hk38).mpr c37)), b_200_53, b_200_62]
        exact hO dn M rfl r f
      · rw [if_neg c37, if_pos cw] at hE
        rw [if_pos (fun z => c37 ((k_e hat hk38).mp z)), b_200_57]
        refine m_err (x := 1) p (fun M' hf => ?_)
        rw [am_ans_some, b_200_62]
        exact hE (1, j) M' rfl (FL_x hf f)
theorem m_oth2 {d nS : Nat} {dn : Tr} {M : am_M} {Q : Option Value → am_H → Prop} (hn : dn.n ≤ 16) (hr : RM dn M) (hQ : ∀ M', MTr M' dn → M' 205 5 = 0 → (∀ a k, ¬ (a = 223 ∨ (a = 205 ∧ (k = 5 ∨ k = 39))) → M' a k = M a k) → Q none (hp nS M')) : am_Wp d 216 0 [.ref 205, .int 2, .int (nI dn.n), .retAddr 0] [] (hp nS M) Q := by
  have e4 : (4 : Int32) * nI dn.n = nI (4 * dn.n) := pk_mul 4 dn.n
  have key : ∀ m k A, k + m = 4 * dn.n → (∀ i, i < k → A 223 i = M 223 (64 + i)) → (∀ i, 64 ≤ i → A 223 i = M 223 i) → (∀ a q, ¬ a = 223 → A a q = M a q) → am_Wp d 216 2 [.ref 205, .int 2, .int (nI dn.n), .int (nI k)] [] (hp nS A) Q := by
    intro m
    induction m with
    | zero =>
      intro k A hk h1 h2 h3
      have hk4 : k = 4 * dn.n := by omega
      subst hk4
      rw [b_216_2, e4, if_pos (by rw [le_n (by omega) (by omega)]; omega), b_216_55, b_216_57, if_neg (by decide), b_216_63, if_pos (by decide), b_216_89, if_pos (by decide), b_216_99, if_neg (by decide), b_216_104, b_216_109, if_pos (by decide), b_216_119]
      have g : ∀ a q, ¬ (a = 205 ∧ (q = 5 ∨ q = 39)) → am_up (am_up A 205 39 (nI dn.n)) 205 5 0 a q = A a q := fun a q hq => by rw [up_pt _ _ (by omega), up_pt _ _ (by omega)]
      refine hQ _ ⟨?_, fun i hi => ?_, fun i hi => ?_, fun i hi => ?_, fun i hi => ?_⟩ (by rw [up_same, upd_same]) (fun a q hq => ?_)
      · rw [up_pt _ _ (by omega), up_same, upd_same]
      · rw [g _ _ (by omega), h1 _ (by omega)]; exact hr.1 i hi
      · rw [g _ _ (by omega), h1 _ (by omega)]; exact hr.2.1 i hi
      · rw [g _ _ (by omega), h1 _ (by omega)]; exact hr.2.2.1 i hi
      · rw [g _ _ (by omega), h1 _ (by omega)]; exact hr.2.2.2 i hi
      · rw [g _ _ (by omega)]; exact h3 a q (by omega)
    | succ m ih =>
      intro k A hk h1 h2 h3
      have e8 : (64 : Int32) + nI k = nI (64 + k) := adl 64 k
      rw [b_216_2, e4, if_neg (by rw [le_n (by omega) (by omega)]; omega), b_216_9, if_pos (by decide), b_216_29, if_neg (by decide), b_216_34 (by rw [e8]; exact in_n (by omega) (by omega)) (in_n (by omega) (by omega)), e8, cl_n (by omega), cl_n (by omega), b_216_49, nI_1]
      refine ih (k + 1) _ (by omega) (fun i hi => ?_) (fun i hi => ?_) (fun a q hq => ?_)
      · by_cases e : i = k
        · rw [e, up_same, upd_same]; exact h2 _ (by omega)
        · rw [up_pt _ _ (by omega)]; exact h1 i (by omega)
      · rw [up_pt _ _ (by omega)]; exact h2 i hi
      · rw [up_pt _ _ (by omega)]; exact h3 a q hq
  rw [b_216_0]
  exact key (4 * dn.n) 0 M (by omega) (fun i hi => absurd hi (Nat.not_lt_zero i)) (fun i hi => rfl) (fun a q hq => rfl)
end
