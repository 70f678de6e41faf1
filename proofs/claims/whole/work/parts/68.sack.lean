/-! THE SACK: what is dearer by weight -/
theorem ite0_t {C : Prop} [Decidable C] {α : Type} {a b : α} (h : C) : (if (if C then (1 : Int32) else 0) = 0 then a else b) = b := by rw [if_pos h]; exact if_neg bn1
theorem ite0_f {C : Prop} [Decidable C] {α : Type} {a b : α} (h : ¬ C) : (if (if C then (1 : Int32) else 0) = 0 then a else b) = a := by rw [if_neg h]; exact if_pos rfl
theorem ite1_t {C : Prop} [Decidable C] {α : Type} {a b : α} (h : C) : (if ¬ (if C then (1 : Int32) else 0) = 0 then a else b) = a := by rw [if_pos h]; exact if_pos bn1
theorem ite1_f {C : Prop} [Decidable C] {α : Type} {a b : α} (h : ¬ C) : (if ¬ (if C then (1 : Int32) else 0) = 0 then a else b) = b := by rw [if_neg h]; exact if_neg bn0
def rl (w v : Nat → Nat) (a b : Nat) : Prop := v a * w b ≤ v b * w a
theorem rl_tr {w v : Nat → Nat} {a b c : Nat} (hb : 0 < w b) (h1 : rl w v a b) (h2 : rl w v b c) : rl w v a c := by
  unfold rl at *
  have e1 : v a * w b * w c ≤ v b * w a * w c := Nat.mul_le_mul_right _ h1
  have e2 : v b * w c * w a ≤ v c * w b * w a := Nat.mul_le_mul_right _ h2
  have e3 : v b * w a * w c = v b * w c * w a := by rw [Nat.mul_right_comm]
  have e4 : v a * w b * w c = v a * w c * w b := by rw [Nat.mul_right_comm]
  have e5 : v c * w b * w a = v c * w a * w b := by rw [Nat.mul_right_comm]
  exact Nat.le_of_mul_le_mul_right (by omega : v a * w c * w b ≤ v c * w a * w b) hb
/-- a comes before b -/
def bf (w v : Nat → Nat) (a b : Nat) : Prop := ¬ rl w v a b ∨ (rl w v b a ∧ a < b)
theorem bf_rl {w v : Nat → Nat} {a b : Nat} (h : bf w v a b) : rl w v b a := by
  rcases h with h | h
  · unfold rl at *; omega
  · exact h.1
theorem bf_as {w v : Nat → Nat} {a b : Nat} (h : bf w v a b) (h2 : bf w v b a) : False := by
  unfold bf rl at *
  omega
theorem bf_ir {w v : Nat → Nat} {a b : Nat} (h : bf w v a b) : a ≠ b := fun e => by
  subst e
  exact bf_as h h
/-- an order of the first c -/
def ord (w v : Nat → Nat) (o : Nat → Nat) (c : Nat) : Prop := (∀ m, m < c → o m < c) ∧ (∀ a b, a < b → b < c → bf w v (o a) (o b)) ∧ ∀ x, x < c → ∃ m, m < c ∧ o m = x
def in2 (f : Nat → Nat) (h i k : Nat) : Nat := if k < h then f k else if k = h then i else f (k - 1)
theorem ord_ins {w v f : Nat → Nat} {h i : Nat} (hw : ∀ k, 0 < w k) (hi : h ≤ i) (ho : ord w v f i) (h1 : ∀ j, h ≤ j → j < i → ¬ rl w v i (f j)) (h2 : h = 0 ∨ rl w v i (f (h - 1))) : ord w v (in2 f h i) (i + 1) := by
  obtain ⟨o1, o2, o3⟩ := ho
  have h3 : ∀ j, j < h → bf w v (f j) i := by
    intro j hj
    have hl : rl w v i (f j) := by
      rcases h2 with h2 | h2
      · omega
      · by_cases hj' : j = h - 1
        · subst hj'; exact h2
        · exact rl_tr (hw _) h2 (bf_rl (o2 j (h - 1) (by omega) (by omega)))
    exact Or.inr ⟨hl, o1 j (by omega)⟩
  refine ⟨fun m hm => ?_, fun a b hab hb => ?_, fun x hx => ?_⟩
  · unfold in2
    split
    · have := o1 m (by omega); omega
    · split
      · omega
      · have := o1 (m - 1) (by omega); omega
  · unfold in2
    by_cases a1 : a < h
    · rw [if_pos a1]
      by_cases b1 : b < h
      · rw [if_pos b1]; exact o2 a b hab (by omega)
      · rw [if_neg b1]
        by_cases b2 : b = h
        · rw [if_pos b2]; exact h3 a a1
        · rw [if_neg b2]; exact o2 a (b - 1) (by omega) (by omega)
    · rw [if_neg a1, if_neg (show ¬ b < h by omega), if_neg (show ¬ b = h by omega)]
      by_cases a2 : a = h
      · rw [if_pos a2]; exact Or.inl (h1 (b - 1) (by omega) (by omega))
      · rw [if_neg a2]; exact o2 (a - 1) (b - 1) (by omega) (by omega)
  · by_cases hx' : x = i
    · refine ⟨h, by omega, ?_⟩
      unfold in2
      rw [if_neg (by omega), if_pos rfl, hx']
    · obtain ⟨m, hm, he⟩ := o3 x (by omega)
      by_cases hmh : m < h
      · refine ⟨m, by omega, ?_⟩
        unfold in2
        rw [if_pos hmh, he]
      · refine ⟨m + 1, by omega, ?_⟩
        unfold in2
        rw [if_neg (by omega), if_neg (by omega), Nat.add_sub_cancel, he]
theorem x_sortIn {d nS c i : Nat} {M : am_M} {Q : Option Value → am_H → Prop} (w v f : Nat → Nat) (hw : ∀ k, 0 < w k ∧ w k ≤ 30) (hv : ∀ k, v k ≤ 99) (h56 : ∀ k, k < c → M 56 k = nI (w k)) (h57 : ∀ k, k < c → M 57 k = nI (v k)) (hi : i < c) (h8 : c ≤ 8) (hf : ∀ k, k < i → f k < i)
    (kk : ∀ (h : Nat) (r : Nat → Int32), h ≤ i → (∀ j, h ≤ j → j < i → ¬ rl w v i (f j)) → (h = 0 ∨ rl w v i (f (h - 1))) → (∀ k, k < i + 1 → r k = nI (in2 f h i k)) → ∀ z, am_Wp (d + 1) 8 2 [.ref 54, .int (nI (i + 1)), z] [] (hp nS (am_row M 58 r)) Q) :
    ∀ (h : Nat) (r : Nat → Int32), h ≤ i → (∀ j, h ≤ j → j < i → ¬ rl w v i (f j)) → (∀ k, k < h → r k = nI (f k)) → (∀ k, h < k → k < i + 1 → r k = nI (f (k - 1))) → am_Wp (d + 1) 8 12 [.ref 54, .int (nI i), .int (nI h)] [] (hp nS (am_row M 58 r)) Q := by
  have put : ∀ (h : Nat) (r : Nat → Int32), h ≤ i → (∀ j, h ≤ j → j < i → ¬ rl w v i (f j)) → (h = 0 ∨ rl w v i (f (h - 1))) → (∀ k, k < h → r k = nI (f k)) → (∀ k, h < k → k < i + 1 → r k = nI (f (k - 1))) → am_Wp (d + 1) 8 52 [.ref 54, .int (nI i), .int (nI h)] [] (hp nS (am_row M 58 r)) Q := by
    intro h r h1 h2 h3 h4 h5
    rw [b_8_52 (by first | exact in_n (by omega) (by omega) | (simp only [li, nI_add, pk_mul]; exact in_n (by omega) (by omega))), cl_n (by omega), up_row, nI_1]
    refine kk h _ h1 h2 h3 (fun k hk => ?_) _
    rw [upd_at]
    unfold in2
    by_cases e : k = h
    · rw [if_pos e, if_neg (by omega), if_pos e]
    · rw [if_neg e]
      by_cases e2 : k < h
      · rw [if_pos e2, h4 k e2]
      · rw [if_neg e2, if_neg e, h5 k (by omega) hk]
  intro h
  induction h with
  | zero =>
    intro r h1 h2 h4 h5
    rw [b_8_12, if_pos (by decide)]
    exact put 0 r h1 h2 (Or.inl rfl) h4 h5
  | succ h ih =>
    intro r h1 h2 h4 h5
    have e1 : nI (h + 1) - 1 = nI h := sub1 (a := h + 1) (by omega)
    have hfh := hf h (by omega)
    have e56 : ∀ k, k < c → am_row M 58 r 56 k = nI (w k) := fun k hk => by rw [row_ne _ _ (by decide), h56 k hk]
    have e57 : ∀ k, k < c → am_row M 58 r 57 k = nI (v k) := fun k hk => by rw [row_ne _ _ (by decide), h57 k hk]
    have bnd : ∀ a b, v a * w b ≤ 99 * 30 := fun a b => Nat.mul_le_mul (hv a) (hw b).2
    have b1 := bnd i (f h)
    have b2 := bnd (f h) i
    rw [b_8_12, if_neg (by rw [li, le_n (by omega) (by omega)]; omega), b_8_16 (by rw [e1]; exact in_n (by omega) (by omega)), e1, cl_n (by omega), row_same, h4 h (by omega), c_9 (by first | exact in_n (by omega) (by omega) | (simp only [li, nI_add, pk_mul]; exact in_n (by omega) (by omega))) (by first | exact in_n (by omega) (by omega) | (simp only [li, nI_add, pk_mul]; exact in_n (by omega) (by omega))) (by first | exact in_n (by omega) (by omega) | (simp only [li, nI_add, pk_mul]; exact in_n (by omega) (by omega))) (by first | exact in_n (by omega) (by omega) | (simp only [li, nI_add, pk_mul]; exact in_n (by omega) (by omega))), cl_n (by omega), cl_n (by omega), e56 _ (by omega), e56 _ (by omega), e57 _ (by omega), e57 _ (by omega), pk_mul, pk_mul, am_ans_some, b_8_29]
    by_cases hr : rl w v i (f h)
    · have hr' : v i * w (f h) ≤ v (f h) * w i := hr
      rw [ite0_f (by rw [le_n (by omega) (by omega)]; omega)]
      exact put (h + 1) r h1 h2 (Or.inr hr) h4 h5
    · have hr' : ¬ v i * w (f h) ≤ v (f h) * w i := hr
      rw [ite0_t (by rw [le_n (by omega) (by omega)]; exact hr'), b_8_32 (by rw [e1]; exact in_n (by omega) (by omega)) (by first | exact in_n (by omega) (by omega) | (simp only [li, nI_add, pk_mul]; exact in_n (by omega) (by omega))), e1, cl_n (by omega), cl_n (by omega), row_same, h4 h (by omega), up_row, pk_m1]
      refine ih _ (by omega) (fun j j1 j2 => ?_) (fun k hk => ?_) (fun k k1 k2 => ?_)
      · by_cases hj : j = h
        · subst hj; exact hr
        · exact h2 j (by omega) j2
      · rw [upd_ne _ _ (by omega)]; exact h4 k (by omega)
      · by_cases hk : k = h + 1
        · subst hk; rw [upd_same]; rfl
        · rw [upd_ne _ _ hk]; exact h5 k (by omega) k2
theorem x_sorts {d nS c : Nat} {M : am_M} {Q : Option Value → am_H → Prop} (w v : Nat → Nat) (hw : ∀ k, 0 < w k ∧ w k ≤ 30) (hv : ∀ k, v k ≤ 99) (h56 : ∀ k, k < c → M 56 k = nI (w k)) (h57 : ∀ k, k < c → M 57 k = nI (v k)) (hc : M 54 3 = nI c) (h8 : c ≤ 8) (hQ : ∀ (o : Nat → Nat) (r : Nat → Int32), ord w v o c → (∀ k, k < c → r k = nI (o k)) → Q none (hp nS (am_row M 58 r))) : am_Wp (d + 1) 8 0 [.ref 54, .retAddr 0, .retAddr 0] [] (hp nS M) Q := by
  have key : ∀ (m i : Nat) (f : Nat → Nat) (r : Nat → Int32), i + m = c → ord w v f i → (∀ k, k < i → r k = nI (f k)) → ∀ z, am_Wp (d + 1) 8 2 [.ref 54, .int (nI i), z] [] (hp nS (am_row M 58 r)) Q := by
    intro m
    induction m with
    | zero =>
      intro i f r h1 ho hr z
      have : i = c := by omega
      subst this
      rw [b_8_2, row_ne _ _ (by decide), hc, if_pos (Int32.le_refl _), b_8_65]
      exact hQ f r ho hr
    | succ m ih =>
      intro i f r h1 ho hr z
      rw [b_8_2, row_ne _ _ (by decide), hc, if_neg (by rw [le_n (by omega) (by omega)]; omega), b_8_10]
      refine x_sortIn w v f hw hv h56 h57 (by omega) h8 (fun k hk => ho.1 k hk) (fun h r' g1 g2 g3 g4 z' => ?_) i r (Nat.le_refl _) (fun j j1 j2 => absurd j2 (by omega)) hr (fun k k1 k2 => absurd k2 (by omega))
      exact ih (i + 1) (in2 f h i) r' (by omega) (ord_ins (fun k => (hw k).1) g1 ho g2 g3) g4 z'
  have e0 : am_row M 58 (M 58) = M := row_id M 58
  rw [b_8_0, ← e0]
  exact key c 0 id _ (by omega) ⟨fun m hm => absurd hm (by omega), fun a b _ h => absurd h (by omega), fun x hx => absurd hx (by omega)⟩ (fun k hk => absurd hk (by omega)) _
/-- the dearest that isn't taken, by the order -/
theorem m_next {d nS c n : Nat} {T : Int32} {M : am_M} {Q : Option Value → am_H → Prop} (w v o : Nat → Nat) (hw : ∀ k, 0 < w k ∧ w k ≤ 30) (hv : ∀ k, v k ≤ 99) (h34 : ∀ k, k < c → M 234 k = nI (w k)) (h35 : ∀ k, k < c → M 235 k = nI (v k)) (hc : M 205 54 = nI c) (h8 : c ≤ 8) (ho : ord w v o c) (hn : n ≤ c) (hT : ∀ x, x < c → (bt T x = true ↔ ∃ m, m < n ∧ o m = x)) : am_Wp (d + 1) 285 0 [.ref 205, .int T, .retAddr 0, .retAddr 0] [] (hp nS M) Q = Q (some (.int (if n < c then nI (o n) else -1))) (hp nS M) := by
  obtain ⟨o1, o2, o3⟩ := ho
  have bnd : ∀ a b, v a * w b ≤ 99 * 30 := fun a b => Nat.mul_le_mul (hv a) (hw b).2
  have key : ∀ (m k : Nat) (x2 : Int32), k + m = c → ((x2 = -1 ∧ ∀ x, x < k → bt T x = true) ∨ ∃ b, x2 = nI b ∧ b < k ∧ ¬ bt T b = true ∧ ∀ x, x < k → ¬ bt T x = true → x ≠ b → bf w v b x) → am_Wp (d + 1) 285 4 [.ref 205, .int T, .int x2, .int (nI k)] [] (hp nS M) Q = Q (some (.int (if n < c then nI (o n) else -1))) (hp nS M) := by
    intro m
    induction m with
    | zero =>
      intro k x2 h1 hs
      have : k = c := by omega
      subst this
      rw [b_285_4, hc, if_pos (Int32.le_refl _), b_285_63]
      by_cases hnc : n < k
      · rw [if_pos hnc]
        have hon := o1 n hnc
        have hfree : ¬ bt T (o n) = true := by
          rw [hT _ hon]
          rintro ⟨j, hj, he⟩
          exact bf_ir (o2 j n hj hnc) he
        rcases hs with ⟨-, hs⟩ | ⟨b, rfl, hb, hbT, hmin⟩
        · exact absurd (hs _ hon) hfree
        · obtain ⟨j, hj, hjb⟩ := o3 b hb
          by_cases hne : o n = b
          · rw [hne]
          · exfalso
            have a1 := hmin (o n) hon hfree hne
            have hjn : n ≤ j := by
              rcases Nat.lt_or_ge j n with h | h
              · exact absurd ((hT b hb).mpr ⟨j, h, hjb⟩) hbT
              · exact h
            have hjn' : n ≠ j := fun e => hne (by rw [e, hjb])
            have a2 := o2 n j (by omega) hj
            rw [hjb] at a2
            exact bf_as a1 a2
      · rw [if_neg hnc]
        have hall : ∀ x, x < k → bt T x = true := fun x hx => by
          obtain ⟨j, hj, he⟩ := o3 x hx
          exact (hT x hx).mpr ⟨j, by omega, he⟩
        rcases hs with ⟨hs, -⟩ | ⟨b, -, hb, hbT, -⟩
        · rw [hs]
        · exact absurd (hall b hb) hbT
    | succ m ih =>
      intro k x2 h1 hs
      rw [b_285_4, hc, if_neg (by rw [le_n (by omega) (by omega)]; omega), b_285_12, c_267, am_ans_some, b_285_18]
      have eg : (¬ ¬ ((T >>> (nI k &&& 31)) &&& 1) = 1) = (bt T k = true) := by rw [bit_get (by omega), Decidable.not_not]
      by_cases hk : bt T k = true
      · rw [ite1_t (by rw [eg]; exact hk), b_285_57, nI_1]
        refine ih (k + 1) x2 (by omega) ?_
        rcases hs with ⟨hs, h2⟩ | ⟨b, e, hb, hbT, hmin⟩
        · refine Or.inl ⟨hs, fun x hx => ?_⟩
          by_cases hx' : x = k
          · subst hx'; exact hk
          · exact h2 x (by omega)
        · refine Or.inr ⟨b, e, by omega, hbT, fun x hx hxT hxb => ?_⟩
          by_cases hx' : x = k
          · subst hx'; exact absurd hk hxT
          · exact hmin x (by omega) hxT hxb
      · rw [ite1_f (by rw [eg]; exact hk), b_285_21]
        rcases hs with ⟨hs, h2⟩ | ⟨b, e, hb, hbT, hmin⟩
        · rw [if_pos hs, b_285_55, b_285_57, nI_1]
          refine ih (k + 1) _ (by omega) (Or.inr ⟨k, rfl, by omega, hk, fun x hx hxT hxk => ?_⟩)
          exact absurd (h2 x (by omega)) hxT
        · subst e
          have nm1 : ¬ nI b = -1 := by
            intro z
            have : (nI b).toInt = (-1 : Int32).toInt := by rw [z]
            rw [nI_toInt (by omega)] at this
            have e2 : (-1 : Int32).toInt = -1 := by decide
            omega
          have b1 := bnd k b
          have b2 := bnd b k
          rw [if_neg nm1, b_285_26 (by first | exact in_n (by omega) (by omega) | (simp only [li, nI_add, pk_mul]; exact in_n (by omega) (by omega))) (by first | exact in_n (by omega) (by omega) | (simp only [li, nI_add, pk_mul]; exact in_n (by omega) (by omega))) (by first | exact in_n (by omega) (by omega) | (simp only [li, nI_add, pk_mul]; exact in_n (by omega) (by omega))) (by first | exact in_n (by omega) (by omega) | (simp only [li, nI_add, pk_mul]; exact in_n (by omega) (by omega))), cl_n (by omega), cl_n (by omega), h34 b (by omega), h34 k (by omega), h35 b (by omega), h35 k (by omega), pk_mul, pk_mul]
          by_cases hr : v k * w b ≤ v b * w k
          · rw [if_pos (by rw [le_n (by omega) (by omega)]; exact hr), b_285_57, nI_1]
            refine ih (k + 1) _ (by omega) (Or.inr ⟨b, rfl, by omega, hbT, fun x hx hxT hxb => ?_⟩)
            by_cases hx' : x = k
            · subst hx'; exact Or.inr ⟨hr, hb⟩
            · exact hmin x (by omega) hxT hxb
          · rw [if_neg (by rw [le_n (by omega) (by omega)]; exact hr), b_285_55, b_285_57, nI_1]
            refine ih (k + 1) _ (by omega) (Or.inr ⟨k, rfl, by omega, hk, fun x hx hxT hxk => ?_⟩)
            refine Or.inl (fun hkx => ?_)
            by_cases hxb : x = b
            · subst hxb; exact hr hkx
            · exact hr (rl_tr (hw x).1 hkx (bf_rl (hmin x (by omega) hxT hxb)))
  rw [b_285_0]
  exact key c 0 (-1) (by omega) (Or.inl ⟨rfl, fun x hx => absurd hx (by omega)⟩)
