/-! THE GREATEST COMMON DIVISOR -/
theorem m_common {d nS : Nat} {M : am_M} {Q : Option Value → am_H → Prop} {x1 x2 : Int32} : ∀ (b a : Nat), a < 2147483648 → b < 2147483648 → ∀ z : Value, am_Wp d 269 5 [.ref 205, .int x1, .int x2, .int (nI a), .int (nI b), z] [] (hp nS M) Q = Q (some (.int (nI (Nat.gcd b a)))) (hp nS M) := by
  intro b
  induction b using Nat.strongRecOn with
  | _ b ih =>
    intro a ha hb z
    rw [b_269_5]
    by_cases h0 : b = 0
    · subst h0
      rw [if_pos nI_0, b_269_26, Nat.gcd_zero_left]
    · have hne : ¬ nI b = 0 := nI_ne0 (by omega) hb
      rw [if_neg hne, b_269_10 hne, pk_rem ha (by omega) hb, ih (a % b) (Nat.mod_lt _ (by omega)) b hb (by have := Nat.mod_lt a (show 0 < b by omega); omega)]
      rw [Nat.gcd_rec b a]
theorem m_gcd {d nS a b : Nat} {M : am_M} {Q : Option Value → am_H → Prop} (ha : a < 2147483648) (hb : b < 2147483648) : am_Wp d 269 0 [.ref 205, .int (nI a), .int (nI b), .retAddr 0, .retAddr 0, .retAddr 0] [] (hp nS M) Q = Q (some (.int (nI (Nat.gcd b a)))) (hp nS M) := by
  rw [b_269_0, m_common b a ha hb]
theorem mod_half {b r : Nat} (h0 : 0 < r) (h : r < b) : 2 * (b % r) < b := by
  have h1 : b % r < r := Nat.mod_lt _ h0
  have h2 : b % r ≤ b - r := by
    rw [Nat.mod_eq_sub_mod (by omega)]
    exact Nat.mod_le _ _
  omega
theorem x_comIn {d nS : Nat} {M : am_M} {Q : Option Value → am_H → Prop} {x0 x1 : Int32} : ∀ (k a b i : Nat) (z : Value), b < 2 ^ k → k ≤ 31 → a < 2147483648 → b < 2147483648 → i + 2 * k ≤ 64 → am_Wp d 148 13 [.int x0, .int x1, .int (nI a), .int (nI b), .int (nI i), z] [] (hp nS M) Q = Q (some (.int (nI (if Nat.gcd b a < 1 then 1 else Nat.gcd b a)))) (hp nS M) := by
  have done : ∀ (a i : Nat) (z : Value), a < 2147483648 → i ≤ 64 → am_Wp d 148 13 [.int x0, .int x1, .int (nI a), .int (nI 0), .int (nI i), z] [] (hp nS M) Q = Q (some (.int (nI (if Nat.gcd 0 a < 1 then 1 else Nat.gcd 0 a)))) (hp nS M) := by
    intro a i z ha hi
    have fin : am_Wp d 148 40 [.int x0, .int x1, .int (nI a), .int (nI 0), .int (nI i), z] [] (hp nS M) Q = Q (some (.int (nI (if Nat.gcd 0 a < 1 then 1 else Nat.gcd 0 a)))) (hp nS M) := by
      rw [b_148_40, Nat.gcd_zero_left]
      by_cases h : a < 1
      · rw [if_neg (by rw [li, le_n (by omega) (by omega)]; omega), b_148_45, b_148_50, if_pos h]
        rfl
      · rw [if_pos (by rw [li, le_n (by omega) (by omega)]; omega), b_148_49, b_148_50, if_neg h]
    rw [b_148_13]
    by_cases h : 64 ≤ i
    · rw [if_pos (by rw [li, le_n (by omega) (by omega)]; omega)]
      exact fin
    · rw [if_neg (by rw [li, le_n (by omega) (by omega)]; omega), b_148_20, if_pos nI_0]
      exact fin
  have step : ∀ (a b i : Nat) (z : Value), a < 2147483648 → 0 < b → b < 2147483648 → i < 64 → am_Wp d 148 13 [.int x0, .int x1, .int (nI a), .int (nI b), .int (nI i), z] [] (hp nS M) Q = am_Wp d 148 13 [.int x0, .int x1, .int (nI b), .int (nI (a % b)), .int (nI (i + 1)), .int (nI (a % b))] [] (hp nS M) Q := by
    intro a b i z ha h0 hb hi
    have hne : ¬ nI b = 0 := nI_ne0 h0 hb
    rw [b_148_13, if_neg (by rw [li, le_n (by omega) (by omega)]; omega), b_148_20, if_neg hne, b_148_24 hne, pk_rem ha h0 hb, nI_1]
  intro k
  induction k with
  | zero =>
    intro a b i z h1 h2 ha hb hi
    have : b = 0 := by simpa using h1
    subst this
    exact done a i z ha (by omega)
  | succ k ih =>
    intro a b i z h1 h2 ha hb hi
    by_cases h0 : b = 0
    · subst h0; exact done a i z ha (by omega)
    · have hm := Nat.mod_lt a (show 0 < b by omega)
      rw [step a b i z ha (by omega) hb (by omega), Nat.gcd_rec b a]
      by_cases h3 : a % b = 0
      · rw [h3]
        exact done b (i + 1) _ hb (by omega)
      · have hm2 := mod_half (show 0 < a % b by omega) hm
        have hm3 := Nat.mod_lt b (show 0 < a % b by omega)
        rw [step b (a % b) (i + 1) _ hb (by omega) (by omega) (by omega), Nat.gcd_rec (a % b) b]
        refine ih (a % b) (b % (a % b)) (i + 2) _ ?_ (by omega) (by omega) (by omega) (by omega)
        have : 2 ^ (k + 1) = 2 * 2 ^ k := by rw [Nat.pow_succ]; omega
        omega
theorem x_common {d nS a b : Nat} {M : am_M} {Q : Option Value → am_H → Prop} (ha : a < 2147483648) (hb : b < 2147483648) : am_Wp (d + 1) 148 0 [.int (nI a), .int (nI b), .retAddr 0, .retAddr 0, .retAddr 0, .retAddr 0] [] (hp nS M) Q = Q (some (.int (nI (if Nat.gcd b a < 1 then 1 else Nat.gcd b a)))) (hp nS M) := by
  rw [b_148_0, c_298, am_ans_some, if_pos (nI_pos' ha), b_148_4, c_298, am_ans_some, if_pos (nI_pos' hb), b_148_9]
  exact x_comIn 31 a b 0 _ (by simpa using hb) (by omega) ha hb (by omega)
