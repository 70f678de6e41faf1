section
/-! TEXT 1, THE MODEL: its lines, and what becomes of them -/
theorem FL_tr {tp : Nat → Nat} {n : Nat} {e : Nat × Nat} {M0 M1 M : am_M} (h : FL tp n e M1 M) (g : eX M0 M1) : FL tp n e M0 M := ⟨h.k, h.p, fun a k hk => (h.f a k hk).trans (g a k (fun z => hk (sX_F z)))⟩
theorem eX_tr {M0 M1 M : am_M} (h : eX M1 M) (g : eX M0 M1) : eX M0 M := fun a k hk => (h a k hk).trans (g a k hk)
theorem at4 (n : Nat) : (64 : Int32) + 4 * nI n = nI (64 + 4 * n) := by
  have : (4 : Int32) * nI n = nI (4 * n) := pk_mul 4 n
  rw [this, adl]
theorem m_dawns {d nS n N : Nat} {tp : Nat → Nat} {c : CS} {M0 : am_M} {x : Cx} {Q : Option Value → am_H → Prop} (hT : TT tp n N M0) (hL : M0 205 8 = nI x.L) (h6 : x.L ≤ 6) : ∀ (m j : Nat) (dn : Dn) (M : am_M), dn.n + m = 17 → dn.n ≤ 16 → PM tp n N j c M M → eX M0 M → DM dn M → (∀ er M', gL (kK tp n) 16 Dn.n (lnD (kK tp n) (kV tp n) x.L) m j dn = .error er → FL tp n er M0 M' → Q (some (.int (-1))) (hp nS M')) → (∀ dn' M', gL (kK tp n) 16 Dn.n (lnD (kK tp n) (kV tp n) x.L) m j dn = .ok dn' → DM dn' M' → eX M0 M' → Q (some (.int (nI dn'.n))) (hp nS M')) → am_Wp (d + 7) 191 2 [.ref 205, .int (nI dn.n)] [] (hp nS M) Q := by
  intro m
  induction m with
  | zero =>
    intro j dn M hm h16
    omega
  | succ m ih =>
    intro j dn M hm h16 p f r hE hO
    have hk38 := kK_38 tp n j
    have hat := p.a.k
    rw [gL] at hE hO
    have wh : ∀ {Q : Option Value → am_H → Prop}, am_Wp (d + 6) 192 0 [.ref 205, .int 16] [] (hp nS M) Q = Q (some (.int (bI (decide (kK tp n j = 16))))) (hp nS M) := fun {Q} => m_isW (w := 16) p (by decide)
    rw [b_191_2, wh, am_ans_some, b_191_8]
    by_cases cw : kK tp n j = 16
    · have n37 : ¬ kK tp n j = 37 := by omega
      rw [if_neg n37, if_neg (fun z => z cw)] at hE hO
      rw [ifb_t cw, b_191_11]
      by_cases c16 : dn.n = 16
      · rw [if_pos c16] at hE
        rw [if_neg (fun z => z (by rw [c16]; rfl)), b_191_17]
        refine m_err (x := 3) p (fun M' hf => ?_)
        rw [am_ans_some, b_191_22]
        exact hE (3, j) M' rfl (FL_x hf f)
      · rw [if_neg c16] at hE hO
        rw [if_pos (show ¬ nI dn.n = 16 by rw [li, eq_n (by omega) (by omega)]; exact c16), b_191_23, at4]
        refine m_dawn (d := d) (x := x) (TT_x hT f) p cw (by omega) (by rw [f _ _ (by unfold sX; omega)]; exact hL) h6 r (fun er M' he hf => ?_) (fun q M' hq hne hf => ?_) (fun q M' hq heq p1 r1 hct f1 => ?_)
        · rw [am_ans_some, b_191_33, if_neg (fun z => z rfl), b_191_37]
          exact hE er M' (by rw [he]) (FL_tr hf f)
        · rw [am_ans_some, b_191_33, if_neg (fun z => z rfl), b_191_37]
          refine hE (1, q.1) M' ?_ (FL_tr hf f)
          rw [hq]
          show (if kK tp n q.1 = 26 then _ else _) = _
          rw [if_neg hne]
        · rw [hq] at hE hO
          have hE : ∀ er M', (if kK tp n q.1 = 26 then gL (kK tp n) 16 Dn.n (lnD (kK tp n) (kV tp n) x.L) m (q.1 + 1) q.2 else .error (1, q.1) : Except (Nat × Nat) Dn) = .error er → FL tp n er M0 M' → Q (some (.int (-1))) (hp nS M') := hE
          have hO : ∀ a' M', (if kK tp n q.1 = 26 then gL (kK tp n) 16 Dn.n (lnD (kK tp n) (kV tp n) x.L) m (q.1 + 1) q.2 else .error (1, q.1) : Except (Nat × Nat) Dn) = .ok a' → DM a' M' → eX M0 M' → Q (some (.int (nI a'.n))) (hp nS M') := hO
          rw [if_pos heq] at hE hO
          rw [am_ans_some, b_191_33, if_pos m1n, b_191_39, nI_1, ← hct]
          exact ih (q.1 + 1) q.2 M' (by omega) (by omega) p1 (eX_tr f1 f) r1 hE hO
    · rw [ifb_f cw, b_191_46]
      by_cases c37 : kK tp n j = 37
      · rw [if_pos c37] at hO
        rw [if_neg (fun z => z ((k_e hat hk38).mpr c37)), b_191_53, b_191_62]
        exact hO dn M rfl r f
      · rw [if_neg c37, if_pos cw] at hE
        rw [if_pos (fun z => c37 ((k_e hat hk38).mp z)), b_191_57]
        refine m_err (x := 1) p (fun M' hf => ?_)
        rw [am_ans_some, b_191_62]
        exact hE (1, j) M' rfl (FL_x hf f)
theorem m_oth1 {d nS : Nat} {dn : Dn} {M : am_M} {Q : Option Value → am_H → Prop} (hn : dn.n ≤ 16) (hr : DM dn M) (hQ : ∀ M', MDn M' dn → M' 205 5 = 0 → (∀ a k, ¬ (a = 222 ∨ (a = 205 ∧ (k = 5 ∨ k = 37))) → M' a k = M a k) → Q none (hp nS M')) : am_Wp d 216 0 [.ref 205, .int 1, .int (nI dn.n), .retAddr 0] [] (hp nS M) Q := by
  have e4 : (4 : Int32) * nI dn.n = nI (4 * dn.n) := pk_mul 4 dn.n
  have key : ∀ m k A, k + m = 4 * dn.n → (∀ i, i < k → A 222 i = M 222 (64 + i)) → (∀ i, 64 ≤ i → A 222 i = M 222 i) → (∀ a q, ¬ a = 222 → A a q = M a q) → am_Wp d 216 2 [.ref 205, .int 1, .int (nI dn.n), .int (nI k)] [] (hp nS A) Q := by
    intro m
    induction m with
    | zero =>
      intro k A hk h1 h2 h3
      have hk4 : k = 4 * dn.n := by omega
      subst hk4
      rw [b_216_2, e4, if_pos (by rw [le_n (by omega) (by omega)]; omega), b_216_55, b_216_57, if_neg (by decide), b_216_63, if_pos (by decide), b_216_89, if_neg (by decide), b_216_94, b_216_99, if_pos (by decide), b_216_109, if_pos (by decide), b_216_119]
      have g : ∀ a q, ¬ (a = 205 ∧ (q = 5 ∨ q = 37)) → am_up (am_up A 205 37 (nI dn.n)) 205 5 0 a q = A a q := fun a q hq => by rw [up_pt _ _ (by omega), up_pt _ _ (by omega)]
      refine hQ _ ⟨?_, fun i hi => ?_, fun i hi => ?_, fun i hi => ?_, fun i hi => ?_⟩ (by rw [up_same, upd_same]) (fun a q hq => ?_)
      · rw [up_pt _ _ (by omega), up_same, upd_same]
      · rw [g _ _ (by omega), h1 _ (by omega)]; exact hr.1 i hi
      · rw [g _ _ (by omega), h1 _ (by omega)]; exact hr.2.1 i hi
      · rw [g _ _ (by omega), h1 _ (by omega)]; exact hr.2.2.1 i hi
      · rw [g _ _ (by omega), h1 _ (by omega)]; exact hr.2.2.2 i hi
      · rw [g _ _ (by omega)]; exact h3 a q (by omega)
    | succ m ih =>
      intro k A hk h1 h2 h3
      have e8 : (64 : Int32) + nI k = nI (64 + k) := adl 64 k
      rw [b_216_2, e4, if_neg (by rw [le_n (by omega) (by omega)]; omega), b_216_9, if_neg (by decide), b_216_14 (by rw [e8]; exact in_n (by omega) (by omega)) (in_n (by omega) (by omega)), e8, cl_n (by omega), cl_n (by omega), b_216_29, if_pos (by decide), b_216_49, nI_1]
      refine ih (k + 1) _ (by omega) (fun i hi => ?_) (fun i hi => ?_) (fun a q hq => ?_)
      · by_cases e : i = k
        · rw [e, up_same, upd_same]; exact h2 _ (by omega)
        · rw [up_pt _ _ (by omega)]; exact h1 i (by omega)
      · rw [up_pt _ _ (by omega)]; exact h2 i hi
      · rw [up_pt _ _ (by omega)]; exact h3 a q hq
  rw [b_216_0]
  exact key (4 * dn.n) 0 M (by omega) (fun i hi => absurd hi (Nat.not_lt_zero i)) (fun i hi => rfl) (fun a q hq => rfl)
end
