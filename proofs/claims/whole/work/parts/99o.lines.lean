section
/-! THE LINES OF TEXTS 1, 2, 3: the loops -/
def gL {A : Type} (K : Nat → Nat) (w0 : Nat) (ct : A → Nat) (ln : Nat → A → Except (Nat × Nat) (Nat × A)) : Nat → Nat → A → Except (Nat × Nat) A
  | 0, j, _ => .error (9, j)
  | m + 1, j, a => if K j = 37 then .ok a else if ¬ K j = w0 then .error (1, j) else if ct a = 16 then .error (3, j) else (match ln j a with
      | .error e => .error e
      | .ok r => if K r.1 = 26 then gL K w0 ct ln m (r.1 + 1) r.2 else .error (1, r.1))
def fT (M0 M : am_M) : Prop := ∀ a k, ¬ ((188 ≤ a ∧ a ≤ 197) ∨ (a = 187 ∧ k = 10)) → M a k = M0 a k
theorem fT_c {M0 M : am_M} (h : fT M0 M) : ∀ a k, ¬ ((188 ≤ a ∧ a ≤ 197) ∨ (a = 187 ∧ (k = 1 ∨ k = 2 ∨ k = 10))) → M a k = M0 a k := fun a k hk => h a k (by omega)
theorem fT_pc {tp : Nat → Nat} {n N j : Nat} {c : CS} {M0 M1 M : am_M} (h : PC tp n N j c M1 M) (f : fT M0 M1) : fT M0 M := fun a k hk => (h.f a k (by omega)).trans (f a k hk)
theorem PC_M {tp : Nat → Nat} {n N j : Nat} {c : CS} {M0 M : am_M} (h : PC tp n N j c M0 M) : PC tp n N j c M M := ⟨h.i, h.jn, h.u, h.cd, fun _ _ _ => rfl⟩
/-- what may begin a line of a text -/
def cB (x : Int32) (k : Nat) : Prop := ((¬ x = 0) ∧ (((¬ x = 3) ∧ (¬ (¬ nI k = 16))) ∨ (¬ (¬ x = 3) ∧ (¬ (¬ nI k = 24))))) ∨ (¬ (¬ x = 0) ∧ ((nI k = 0) ∨ ((nI k = 1) ∨ (¬ (¬ nI k = 2)))))
theorem cB_1 {k : Nat} (hk : k ≤ 38) : cB 1 k ↔ k = 16 := by
  unfold cB
  rw [li, li, li, li, li, eq_n (b := 16) (by omega) (by omega)]
  exact ⟨fun z => z.elim (fun z => z.2.elim (fun z => Decidable.not_not.mp z.2) (fun z => absurd (by decide) z.1)) (fun z => absurd (by decide) z.1), fun z => Or.inl ⟨by decide, Or.inl ⟨by decide, fun y => y z⟩⟩⟩
theorem x_lines {A : Type} {nS n N e w0 : Nat} {tp : Nat → Nat} {c : CS} {M0 : am_M} {x : Int32} {Q : Option Value → am_H → Prop} (ct : A → Nat) (ln : Nat → A → Except (Nat × Nat) (Nat × A)) (RC : A → am_M → Prop) (hT : TK tp n N M0) (he : 2 ≤ e) (hw : w0 ≤ 36) (hb : ∀ k, k ≤ 38 → (cB x k ↔ k = w0)) (h16 : ∀ a M, RC a M → ct a ≤ 16) (hRC : ∀ a M M', RC a M → M' 196 = M 196 → M' 197 = M 197 → RC a M')
    (hL : ∀ j a M z, PC tp n N j c M M → fT M0 M → RC a M → kK tp n j = w0 → ct a < 16 → (∀ er M', ln j a = .error er → FC tp n er M0 M' → Q (some (.int 0)) (hp nS M')) → (∀ r M', ln j a = .ok r → PC tp n N r.1 c M' M' → RC r.2 M' → ct r.2 = ct a + 1 → fT M0 M' → am_Wp e 42 135 [.ref 187, .int x, .ref 18, .int (nI (ct a)), z] [.int 1] (hp nS M') Q) → am_Wp e 42 93 [.ref 187, .int x, .ref 18, .int (nI (ct a)), z] [] (hp nS M) Q) :
    ∀ (m j : Nat) (a : A) (M : am_M) (z : Value), ct a + m = 17 → PC tp n N j c M M → fT M0 M → RC a M → (∀ er M', gL (kK tp n) w0 ct ln m j a = .error er → FC tp n er M0 M' → Q (some (.int 0)) (hp nS M')) → (∀ a' M', gL (kK tp n) w0 ct ln m j a = .ok a' → RC a' M' → fT M0 M' → Q (some (.int 1)) (hp nS M')) → am_Wp e 42 52 [.ref 187, .int x, .ref 18, .int (nI (ct a)), z] [] (hp nS M) Q := by
  have hte := TE_of hT
  have hlN := hT.l
  obtain ⟨e1, rfl⟩ : ∃ e1, e = e1 + 1 + 1 := ⟨e - 2, by omega⟩
  intro m
  induction m with
  | zero =>
    intro j a M z hm p f r
    have := h16 a M r
    omega
  | succ m ih =>
    intro j a M z hm p0 f0 r hE hO
    have h16a := h16 a M r
    have hj := p0.jn
    have hk38 := kK_38 tp n j
    have hT0 := TK_f hT (fT_c f0)
    have cur : (if M 187 9 ≤ M 187 10 then (37 : Int32) else M 199 (M 187 10).toNatClampNeg) = nI (kK tp n j) := by
      rw [hT0.t, p0.i, if_neg (by rw [le_n (by omega) (by omega)]; omega), cl_n (by omega), hT0.k j hj]
    rw [gL] at hE hO
    rw [b_42_52, if_neg (by rw [li, lt_n (by omega) (by omega)]; omega), b_42_58, x_kd hT0 p0, am_ans_some, b_42_62]
    by_cases c37 : kK tp n j = 37
    · rw [if_pos c37] at hO
      rw [if_pos (by rw [c37]; rfl), b_42_159]
      exact hO a M rfl r f0
    rw [if_neg c37] at hE hO
    rw [if_neg (by rw [li, eq_n (by omega) (by omega)]; exact c37), b_42_67, c_52 (fun _ => by rw [p0.i]; exact in_n (by omega) (by omega)), cur, am_ans_some, b_42_72]
    by_cases cw : kK tp n j = w0
    · rw [if_neg (fun z => z cw)] at hE hO
      have cb := (hb _ hk38).mpr cw
      unfold cB at cb
      rw [ite1_t cb, b_42_81]
      by_cases c16 : ct a = 16
      · rw [if_pos c16] at hE
        rw [if_neg (fun z => z (by rw [c16]; rfl)), b_42_87]
        refine x_flt (x := 3) hT0 p0 (fun M' hf => ?_)
        rw [am_ans_some, b_42_92 rok0]
        exact hE (3, j) M' rfl (FC_c hf (fT_c f0))
      · rw [if_neg c16] at hE hO
        rw [if_pos (show ¬ nI (ct a) = 16 by rw [li, eq_n (by omega) (by omega)]; exact c16)]
        refine hL j a M z p0 f0 r cw (by omega) (fun er M' hr hf => hE er M' (by rw [hr]) hf) (fun q M' hq p1 r1 hct f1 => ?_)
        rw [hq] at hE hO
        have hE : ∀ er M', (if kK tp n q.1 = 26 then gL (kK tp n) w0 ct ln m (q.1 + 1) q.2 else .error (1, q.1) : Except (Nat × Nat) A) = .error er → FC tp n er M0 M' → Q (some (.int 0)) (hp nS M') := hE
        have hO : ∀ a' M', (if kK tp n q.1 = 26 then gL (kK tp n) w0 ct ln m (q.1 + 1) q.2 else .error (1, q.1) : Except (Nat × Nat) A) = .ok a' → RC a' M' → fT M0 M' → Q (some (.int 1)) (hp nS M') := hO
        rw [b_42_135, if_neg bn1, b_42_142]
        refine x_takes (k := 26) (TK_f hT (fT_c f1)) p1 (by omega) (fun hne M2 hf => ?_) (fun heq M2 p2 => ?_)
        · rw [am_ans_some, b_42_148, if_neg (fun z => z rfl), b_42_151]
          exact hE (1, q.1) M2 (by rw [if_neg hne]) (FC_c hf (fT_c f1))
        · rw [if_pos heq] at hE hO
          rw [am_ans_some, b_42_148, if_pos bn1, b_42_153, nI_1, ← hct]
          exact ih (q.1 + 1) q.2 M2 _ (by omega) (PC_M p2) (fT_pc p2 f1) (hRC _ _ _ r1 (funext fun k => p2.f _ _ (by omega)) (funext fun k => p2.f _ _ (by omega))) hE hO
    · rw [if_pos cw] at hE
      have cb : ¬ cB x (kK tp n j) := fun z => cw ((hb _ hk38).mp z)
      unfold cB at cb
      rw [ite1_f cb, b_42_75]
      refine x_flt (x := 1) hT0 p0 (fun M' hf => ?_)
      rw [am_ans_some, b_42_80 rok0]
      exact hE (1, j) M' rfl (FC_c hf (fT_c f0))
end
