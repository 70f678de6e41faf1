/-! THE SACK: how much fits -/
def pkL (w o : Nat → Nat) (room n : Nat) : Nat := room - sN (fun j => w (o j)) n
def pkS (v o : Nat → Nat) (n : Nat) : Nat := sN (fun j => v (o j)) n
def pkN (w o : Nat → Nat) (room c N : Nat) : Prop := N ≤ c ∧ (∀ j, j < N → w (o j) ≤ pkL w o room j) ∧ (N = c ∨ pkL w o room N < w (o N))
theorem pkN_u {w o : Nat → Nat} {room c A B : Nat} (hA : pkN w o room c A) (hB : pkN w o room c B) : A = B := by
  rcases Nat.lt_trichotomy A B with h | h | h
  · have h1 := hB.2.1 A h
    have h2 := hB.1
    rcases hA.2.2 with h3 | h3 <;> omega
  · exact h
  · have h1 := hA.2.1 B h
    have h2 := hA.1
    rcases hB.2.2 with h3 | h3 <;> omega
def pkU (w o : Nat → Nat) (c N : Nat) : Nat := if N < c then w (o N) else 1
def pkO (w v o : Nat → Nat) (room c N : Nat) : Nat := if N < c then pkS v o N * w (o N) + v (o N) * pkL w o room N else pkS v o N
def pkV (w v o : Nat → Nat) (room c N : Nat) (x2 : Int32) : Int32 := if ¬ x2 = 2 then (if ¬ x2 = 0 then nI (pkU w o c N / Nat.gcd (pkU w o c N) (pkO w v o room c N)) else nI (pkO w v o room c N / Nat.gcd (pkU w o c N) (pkO w v o room c N))) else nI N
theorem pk_b {w v o : Nat → Nat} {room c N : Nat} (hw : ∀ k, 0 < w k ∧ w k ≤ 30) (hv : ∀ k, v k ≤ 99) (hr : room ≤ 99) (hN : N ≤ 8) : pkL w o room N ≤ 99 ∧ pkS v o N ≤ 792 ∧ 0 < pkU w o c N ∧ pkU w o c N ≤ 30 ∧ pkO w v o room c N ≤ 40000 := by
  have hS : ∀ n, pkS v o n ≤ 99 * n := by
    intro n
    induction n with
    | zero => exact Nat.le_refl _
    | succ n ih =>
      have := hv (o n)
      show pkS v o n + v (o n) ≤ _
      omega
  have h1 : pkL w o room N ≤ 99 := by unfold pkL; omega
  have h2 := hS N
  have h3 := hw (o N)
  have h4 := hv (o N)
  have h5 : pkS v o N * w (o N) ≤ 792 * 30 := Nat.mul_le_mul (by omega) h3.2
  have h6 : v (o N) * pkL w o room N ≤ 99 * 99 := Nat.mul_le_mul h4 h1
  refine ⟨h1, by omega, ?_, ?_, ?_⟩
  · unfold pkU; split <;> omega
  · unfold pkU; split <;> omega
  · unfold pkO; split <;> omega
theorem x_fits {d nS c room : Nat} {x2 : Int32} {M : am_M} {Q : Option Value → am_H → Prop} (w v : Nat → Nat) (hw : ∀ k, 0 < w k ∧ w k ≤ 30) (hv : ∀ k, v k ≤ 99) (h56 : ∀ k, k < c → M 56 k = nI (w k)) (h57 : ∀ k, k < c → M 57 k = nI (v k)) (hc : M 54 3 = nI c) (h8 : c ≤ 8) (hr : room ≤ 99) (hQ : ∀ (o : Nat → Nat) (N : Nat) (r : Nat → Int32), ord w v o c → pkN w o room c N → Q (some (.int (pkV w v o room c N x2))) (hp nS (am_row M 58 r))) : am_Wp (d + 2) 7 0 [.ref 54, .int (nI room), .int x2, .retAddr 0, .retAddr 0, .retAddr 0, .retAddr 0, .retAddr 0, .retAddr 0] [] (hp nS M) Q := by
  rw [b_7_0]
  refine x_sorts w v hw hv h56 h57 hc h8 (fun o r ho hr' => ?_)
  rw [am_ans_none, b_7_4]
  have e56 : ∀ k, k < c → am_row M 58 r 56 k = nI (w k) := fun k hk => by rw [row_ne _ _ (by decide), h56 k hk]
  have e57 : ∀ k, k < c → am_row M 58 r 57 k = nI (v k) := fun k hk => by rw [row_ne _ _ (by decide), h57 k hk]
  have ec : am_row M 58 r 54 3 = nI c := by rw [row_ne _ _ (by decide), hc]
  have e58 : ∀ k, k < c → am_row M 58 r 58 k = nI (o k) := fun k hk => by rw [row_same, hr' k hk]
  -- behind the loop
  have fin : ∀ N, pkN w o room c N → am_Wp (d + 2) 7 75 [.ref 54, .int (nI room), .int x2, .int (nI (pkL w o room N)), .int (nI (pkS v o N)), .int (nI N), .retAddr 0, .retAddr 0, .retAddr 0] [] (hp nS (am_row M 58 r)) Q := by
    intro N hN
    have res := hQ o N r ho hN
    obtain ⟨q1, q2, q3, q4, q5⟩ := pk_b (c := c) (o := o) (N := N) hw hv hr (by have := hN.1; omega)
    have gp : 0 < Nat.gcd (pkU w o c N) (pkO w v o room c N) := Nat.gcd_pos_of_pos_left _ q3
    have gl : Nat.gcd (pkU w o c N) (pkO w v o room c N) ≤ 30 := Nat.le_trans (Nat.gcd_le_left _ q3) q4
    unfold pkV at res
    rw [b_7_75]
    by_cases h2 : x2 = 2
    · rw [if_neg (fun z => z h2)] at res ⊢
      rw [b_7_80]
      exact res
    · rw [if_pos h2] at res ⊢
      -- the part's sum is known
      have tail : am_Wp (d + 2) 7 144 [.ref 54, .int (nI room), .int x2, .int (nI (pkL w o room N)), .int (nI (pkS v o N)), .int (nI N), .int (nI (pkU w o c N)), .retAddr 0, .retAddr 0] [.int (nI (pkO w v o room c N))] (hp nS (am_row M 58 r)) Q := by
        have eg : (if Nat.gcd (pkU w o c N) (pkO w v o room c N) < 1 then 1 else Nat.gcd (pkU w o c N) (pkO w v o room c N)) = Nat.gcd (pkU w o c N) (pkO w v o room c N) := if_neg (by omega)
        have hne : ¬ nI (Nat.gcd (pkU w o c N) (pkO w v o room c N)) = 0 := nI_ne0 gp (by omega)
        rw [b_7_144, x_common (by omega) (by omega), am_ans_some, eg, b_7_153]
        by_cases h0 : x2 = 0
        · rw [if_neg (fun z => z h0)] at res ⊢
          rw [b_7_159 hne, b_7_172, pk_div (by omega) gp (by omega)]
          exact res
        · rw [if_pos h0] at res ⊢
          rw [b_7_167 hne, b_7_172, pk_div (by omega) gp (by omega)]
          exact res
      rw [b_7_83, ec]
      by_cases hNc : N < c
      · have ho1 := ho.1 N hNc
        have eU : pkU w o c N = w (o N) := if_pos hNc
        have eO : pkO w v o room c N = pkS v o N * w (o N) + v (o N) * pkL w o room N := if_pos hNc
        rw [eU, eO] at tail
        rw [if_neg (by rw [le_n (by omega) (by omega)]; omega), b_7_92 (by first | exact in_n (by omega) (by omega) | (simp only [li, nI_add, pk_mul]; exact in_n (by omega) (by omega))) (by rw [cl_n (by omega), e58 N hNc]; exact in_n (by omega) (by omega)), cl_n (by omega), e58 N hNc, cl_n (by omega), e56 _ ho1, b_7_108, ec, if_neg (by rw [le_n (by omega) (by omega)]; omega), b_7_119 (by first | exact in_n (by omega) (by omega) | (simp only [li, nI_add, pk_mul]; exact in_n (by omega) (by omega))) (by rw [cl_n (by omega), e58 N hNc]; exact in_n (by omega) (by omega)), cl_n (by omega), e58 N hNc, cl_n (by omega), e57 _ ho1, pk_mul, pk_mul, nI_add]
        exact tail
      · have eU : pkU w o c N = 1 := if_neg hNc
        have eO : pkO w v o room c N = pkS v o N := if_neg hNc
        rw [eU, eO] at tail
        rw [if_pos (by rw [le_n (by omega) (by have := hN.1; omega)]; omega), b_7_107, b_7_108, ec, if_pos (by rw [le_n (by omega) (by have := hN.1; omega)]; omega), b_7_142]
        exact tail
  have key : ∀ m n, n + m = c → (∀ j, j < n → w (o j) ≤ pkL w o room j) → am_Wp (d + 2) 7 12 [.ref 54, .int (nI room), .int x2, .int (nI (pkL w o room n)), .int (nI (pkS v o n)), .int (nI n), .retAddr 0, .retAddr 0, .retAddr 0] [] (hp nS (am_row M 58 r)) Q := by
    intro m
    induction m with
    | zero =>
      intro n h1 h2
      rw [b_7_12, ec, if_pos (by rw [le_n (by omega) (by omega)]; omega)]
      exact fin n ⟨by omega, h2, Or.inl (by omega)⟩
    | succ m ih =>
      intro n h1 h2
      have ho1 := ho.1 n (by omega)
      have hL : pkL w o room n ≤ 99 := by unfold pkL; omega
      have hw1 := hw (o n)
      rw [b_7_12, ec, if_neg (by rw [le_n (by omega) (by omega)]; omega), b_7_21 (by first | exact in_n (by omega) (by omega) | (simp only [li, nI_add, pk_mul]; exact in_n (by omega) (by omega))) (by rw [cl_n (by omega), e58 n (by omega)]; exact in_n (by omega) (by omega)), cl_n (by omega), e58 n (by omega), cl_n (by omega), e56 _ ho1]
      by_cases hl : pkL w o room n < w (o n)
      · rw [if_pos (by rw [lt_n (by omega) (by omega)]; exact hl)]
        exact fin n ⟨by omega, h2, Or.inr hl⟩
      · rw [if_neg (by rw [lt_n (by omega) (by omega)]; exact hl), b_7_37 (by first | exact in_n (by omega) (by omega) | (simp only [li, nI_add, pk_mul]; exact in_n (by omega) (by omega))) (by rw [cl_n (by omega), e58 n (by omega)]; exact in_n (by omega) (by omega)) (by first | exact in_n (by omega) (by omega) | (simp only [li, nI_add, pk_mul]; exact in_n (by omega) (by omega))) (by rw [cl_n (by omega), e58 n (by omega)]; exact in_n (by omega) (by omega)), cl_n (by omega), e58 n (by omega), cl_n (by omega), e56 _ ho1, e57 _ ho1, nI_add, pk_sub (by omega), nI_1]
        have eL : pkL w o room (n + 1) = pkL w o room n - w (o n) := by
          show room - (sN (fun j => w (o j)) n + w (o n)) = room - sN (fun j => w (o j)) n - w (o n)
          omega
        have := ih (n + 1) (by omega) (fun j hj => by
          by_cases hj' : j = n
          · subst hj'; omega
          · exact h2 j (by omega))
        rw [eL] at this
        exact this
  exact key c 0 (by omega) (fun j hj => absurd hj (by omega))
theorem m_frac {d nS a b : Nat} {M : am_M} {Q : Option Value → am_H → Prop} (ha : a < 2147483648) (hb : b < 2147483648) (h0 : 0 < b) : am_Wp (d + 1) 268 0 [.ref 205, .int (nI a), .int (nI b), .retAddr 0] [] (hp nS M) Q = Q none (hp nS (am_up (am_up M 205 1 (nI (a / Nat.gcd b a))) 205 2 (nI (b / Nat.gcd b a)))) := by
  have gp : 0 < Nat.gcd b a := Nat.gcd_pos_of_pos_left _ h0
  have gl : Nat.gcd b a ≤ b := Nat.gcd_le_left _ h0
  have hne : ¬ nI (Nat.gcd b a) = 0 := nI_ne0 gp (by omega)
  rw [b_268_0, m_gcd ha hb, am_ans_some, b_268_6 hne hne, pk_div ha gp (by omega), pk_div hb gp (by omega)]
theorem nI_m1 {b : Nat} (h : b < 1000000) : ¬ nI b = -1 := by
  intro z
  have : (nI b).toInt = (-1 : Int32).toInt := by rw [z]
  rw [nI_toInt (by omega)] at this
  have e2 : (-1 : Int32).toInt = -1 := by decide
  omega
theorem m_packed {d nS c room N : Nat} {x2 : Int32} {M : am_M} {Q : Option Value → am_H → Prop} (w v o : Nat → Nat) (hw : ∀ k, 0 < w k ∧ w k ≤ 30) (hv : ∀ k, v k ≤ 99) (h34 : ∀ k, k < c → M 234 k = nI (w k)) (h35 : ∀ k, k < c → M 235 k = nI (v k)) (hc : M 205 54 = nI c) (h8 : c ≤ 8) (hr : room ≤ 99) (ho : ord w v o c) (hN : pkN w o room c N) (hQ : ∀ y1 y2, Q (some (.int (pkV w v o room c N x2))) (hp nS (am_up (am_up M 205 1 y1) 205 2 y2))) : am_Wp (d + 2) 284 28 [.ref 205, .int (nI room), .int x2, .retAddr 0, .retAddr 0, .retAddr 0, .retAddr 0, .retAddr 0] [] (hp nS M) Q := by
  have same : am_up (am_up M 205 1 (M 205 1)) 205 2 (M 205 2) = M := by
    have e : ∀ (M : am_M) k, am_up M 205 k (M 205 k) = M := by
      intro M k
      funext a j
      by_cases h : a = 205
      · subst h
        rw [up_same, upd_at]
        by_cases hj : j = k
        · rw [if_pos hj, hj]
        · rw [if_neg hj]
      · rw [up_ne _ _ _ h]
    rw [e M 1, e M 2]
  obtain ⟨q1, q2, q3, q4, q5⟩ := pk_b (c := c) (o := o) (N := N) hw hv hr (by have := hN.1; omega)
  have tail : ¬ x2 = 2 → ∀ x3 x7, am_Wp (d + 2) 284 167 [.ref 205, .int (nI room), .int x2, .int x3, .int (nI (pkL w o room N)), .int (nI N), .int (nI (pkS v o N)), .int x7] [] (hp nS (am_up (am_up M 205 1 (nI (pkO w v o room c N / Nat.gcd (pkU w o c N) (pkO w v o room c N)))) 205 2 (nI (pkU w o c N / Nat.gcd (pkU w o c N) (pkO w v o room c N))))) Q := by
    intro h2 x3 x7
    have res := hQ (nI (pkO w v o room c N / Nat.gcd (pkU w o c N) (pkO w v o room c N))) (nI (pkU w o c N / Nat.gcd (pkU w o c N) (pkO w v o room c N)))
    unfold pkV at res
    rw [if_pos h2] at res
    rw [b_284_167]
    by_cases h0 : x2 = 0
    · rw [if_neg (fun z => z h0)] at res ⊢
      rw [b_284_171, b_284_182, up_same, upd_ne _ _ (by decide), up_same, upd_same]
      exact res
    · rw [if_pos h0] at res ⊢
      rw [b_284_178, b_284_182, up_same, upd_same]
      exact res
  have fin : ∀ x3, am_Wp (d + 2) 284 111 [.ref 205, .int (nI room), .int x2, .int x3, .int (nI (pkL w o room N)), .int (nI N), .int (nI (pkS v o N)), .int (if N < c then nI (o N) else -1)] [] (hp nS M) Q := by
    intro x3
    rw [b_284_111]
    by_cases h2 : x2 = 2
    · have res := hQ (M 205 1) (M 205 2)
      rw [same] at res
      unfold pkV at res
      rw [if_neg (fun z => z h2)] at res ⊢
      rw [b_284_116]
      exact res
    · rw [if_pos h2, b_284_119]
      have tl := tail h2
      by_cases hNc : N < c
      · have ho1 := ho.1 N hNc
        have eU : pkU w o c N = w (o N) := if_pos hNc
        have eO : pkO w v o room c N = pkS v o N * w (o N) + v (o N) * pkL w o room N := if_pos hNc
        rw [if_pos hNc, if_pos (nI_m1 (by omega)), b_284_135 (by first | exact in_n (by omega) (by omega) | (simp only [li, nI_add, pk_mul]; exact in_n (by omega) (by omega))) (by first | exact in_n (by omega) (by omega) | (simp only [li, nI_add, pk_mul]; exact in_n (by omega) (by omega))) (by first | exact in_n (by omega) (by omega) | (simp only [li, nI_add, pk_mul]; exact in_n (by omega) (by omega))), cl_n (by omega), h34 _ ho1, h35 _ ho1, pk_mul, pk_mul, nI_add, Nat.mul_comm (pkL w o room N), ← eO, ← eU, m_frac (by omega) (by omega) q3, am_ans_none]
        exact tl _ _
      · have eU : pkU w o c N = 1 := if_neg hNc
        have eO : pkO w v o room c N = pkS v o N := if_neg hNc
        rw [if_neg hNc, if_neg (fun z => z rfl), b_284_125, show Value.int 1 = Value.int (nI 1) from rfl, m_frac (a := pkS v o N) (b := 1) (by omega) (by omega) (by omega), am_ans_none, b_284_132]
        rw [eO, eU] at tl
        exact tl _ _
  have key : ∀ (m n : Nat) (T : Int32), n + m = c → (∀ j, j < n → w (o j) ≤ pkL w o room j) → (∀ x, x < c → (bt T x = true ↔ ∃ j, j < n ∧ o j = x)) → am_Wp (d + 2) 284 46 [.ref 205, .int (nI room), .int x2, .int T, .int (nI (pkL w o room n)), .int (nI n), .int (nI (pkS v o n)), .int (if n < c then nI (o n) else -1)] [] (hp nS M) Q := by
    intro m
    induction m with
    | zero =>
      intro n T h1 h2 hT
      have : n = N := pkN_u ⟨by omega, h2, Or.inl (by omega)⟩ hN
      subst this
      rw [b_284_46, if_pos (if_neg (by omega))]
      exact fin T
    | succ m ih =>
      intro n T h1 h2 hT
      have ho1 := ho.1 n (by omega)
      have hL : pkL w o room n ≤ 99 := by unfold pkL; omega
      have hw1 := hw (o n)
      have hx : (if n < c then nI (o n) else -1) = nI (o n) := if_pos (by omega)
      rw [b_284_46, hx, if_neg (nI_m1 (by omega)), b_284_52 (by first | exact in_n (by omega) (by omega) | (simp only [li, nI_add, pk_mul]; exact in_n (by omega) (by omega))), cl_n (by omega), h34 _ ho1]
      by_cases hl : pkL w o room n < w (o n)
      · rw [if_pos (by rw [lt_n (by omega) (by omega)]; exact hl)]
        have : n = N := pkN_u ⟨by omega, h2, Or.inr hl⟩ hN
        subst this
        have := fin T
        rw [hx] at this
        exact this
      · have hT' : ∀ x, x < c → (bt (T ||| ((1 : Int32) <<< (nI (o n) &&& 31))) x = true ↔ ∃ j, j < n + 1 ∧ o j = x) := by
          intro x hx
          rw [bit_set (by omega) (by omega), Bool.or_eq_true, hT x hx, decide_eq_true_eq]
          constructor
          · rintro (⟨j, hj, e⟩ | e)
            · exact ⟨j, by omega, e⟩
            · exact ⟨n, by omega, e.symm⟩
          · rintro ⟨j, hj, e⟩
            by_cases hj' : j = n
            · subst hj'; exact Or.inr e.symm
            · exact Or.inl ⟨j, by omega, e⟩
        rw [if_neg (by rw [lt_n (by omega) (by omega)]; exact hl), b_284_64 (by first | exact in_n (by omega) (by omega) | (simp only [li, nI_add, pk_mul]; exact in_n (by omega) (by omega))) (by first | exact in_n (by omega) (by omega) | (simp only [li, nI_add, pk_mul]; exact in_n (by omega) (by omega))), m_next w v o hw hv h34 h35 hc h8 ho (show n + 1 ≤ c by omega) hT', am_ans_some, b_284_106, cl_n (by omega), h34 _ ho1, h35 _ ho1, pk_sub (by omega), nI_add, nI_1]
        have eL : pkL w o room (n + 1) = pkL w o room n - w (o n) := by
          show room - (sN (fun j => w (o j)) n + w (o n)) = room - sN (fun j => w (o j)) n - w (o n)
          omega
        have := ih (n + 1) _ (by omega) (fun j hj => by
          by_cases hj' : j = n
          · subst hj'; omega
          · exact h2 j (by omega)) hT'
        rw [eL] at this
        exact this
  have hT0 : ∀ x, x < c → (bt 0 x = true ↔ ∃ j, j < 0 ∧ o j = x) := fun x hx => by
    rw [b_0]
    exact ⟨fun h => absurd h (by decide), fun ⟨j, hj, _⟩ => absurd hj (by omega)⟩
  rw [b_284_28, m_next w v o hw hv h34 h35 hc h8 ho (show 0 ≤ c by omega) hT0, am_ans_some, b_284_44]
  exact key c 0 0 (by omega) (fun j hj => absurd hj (by omega)) hT0
