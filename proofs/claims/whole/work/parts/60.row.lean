/-! THE ROW OF PRICES: windows -/
theorem x_sumFrom {d nS a n c : Nat} {M : am_M} {Q : Option Value → am_H → Prop} (hc : M 45 1 = nI c) (h : a + n ≤ c) (h14 : c ≤ 14) : am_Wp d 70 0 [.ref 45, .int (nI a), .int (nI n), .retAddr 0, .retAddr 0] [] (hp nS M) Q = Q (some (.int (sI (fun k => M 46 (a + k)) n))) (hp nS M) := by
  rw [b_70_0]
  refine l_up n (fun k => am_Wp d 70 5 [.ref 45, .int (nI a), .int (nI n), .int (sI (fun k => M 46 (a + k)) k), .int (nI (a + k))] [] (hp nS M) Q = Q (some (.int (sI (fun k => M 46 (a + k)) n))) (hp nS M)) ?_ (fun k hk ih => ?_)
  · rw [b_70_5, nI_add, if_pos (by rw [le_n (by omega) (by omega)]; omega), b_70_38]
  · rw [b_70_5, nI_add, if_neg (by rw [le_n (by omega) (by omega)]; omega), b_70_13, hc, if_neg (by rw [le_n (by omega) (by omega)]; omega), b_70_22 (by first | exact in_n (by omega) (by omega) | (simp only [li, nI_add, pk_mul]; exact in_n (by omega) (by omega))), cl_n (by omega), nI_1]
    exact ih
theorem m_sumFrom {d nS a n : Nat} {M : am_M} {Q : Option Value → am_H → Prop} (h : a + n ≤ 14) : am_Wp d 260 0 [.ref 205, .int (nI a), .int (nI n), .retAddr 0, .retAddr 0] [] (hp nS M) Q = Q (some (.int (sI (fun k => M 227 (a + k)) n))) (hp nS M) := by
  rw [b_260_0]
  refine l_up n (fun k => am_Wp d 260 5 [.ref 205, .int (nI a), .int (nI n), .int (sI (fun k => M 227 (a + k)) k), .int (nI (a + k))] [] (hp nS M) Q = Q (some (.int (sI (fun k => M 227 (a + k)) n))) (hp nS M)) ?_ (fun k hk ih => ?_)
  · rw [b_260_5, nI_add, if_pos (by rw [le_n (by omega) (by omega)]; omega), b_260_29]
  · rw [b_260_5, nI_add, if_neg (by rw [le_n (by omega) (by omega)]; omega), b_260_13 (by first | exact in_n (by omega) (by omega) | (simp only [li, nI_add, pk_mul]; exact in_n (by omega) (by omega))), cl_n (by omega), nI_1]
    exact ih
/-- the dearest window: its sum and its place, up to a place -/
def wnB (s : Nat → Int32) (k : Nat) (q : Int32 × Int32) : Int32 × Int32 := if q.1 < s k then (s k, nI k) else q
def wnS (s : Nat → Int32) : Nat → Int32 × Int32 := itr (wnB s) (0, -1)
theorem wnS_pos {s : Nat → Int32} {k : Nat} (h : (wnS s k).1 < s k) : wnS s (k + 1) = (s k, nI k) := if_pos h
theorem wnS_neg {s : Nat → Int32} {k : Nat} (h : ¬ (wnS s k).1 < s k) : wnS s (k + 1) = wnS s k := if_neg h
/-- the place and the sum belong together -/
theorem wnS_ok (s : Nat → Int32) : ∀ n, n < 100 → (wnS s n = (0, -1)) ∨ ∃ k, k < n ∧ wnS s n = (s k, nI k)
  | 0, _ => Or.inl rfl
  | n + 1, hn => by
    by_cases h : (wnS s n).1 < s n
    · exact Or.inr ⟨n, by omega, wnS_pos h⟩
    · rw [wnS_neg h]
      rcases wnS_ok s n (by omega) with h1 | ⟨k, hk, h1⟩
      · exact Or.inl h1
      · exact Or.inr ⟨k, by omega, h1⟩
theorem x_dearest {d nS n c : Nat} {M : am_M} {Q : Option Value → am_H → Prop} (s : Nat → Int32) (hs : ∀ a, a + n ≤ c → sI (fun k => M 46 (a + k)) n = s a) (hc : M 45 1 = nI c) (h1 : 1 ≤ n) (h14 : c ≤ 14) (hn : n ≤ 14) : am_Wp (d + 1) 69 0 [.ref 45, .int (nI n), .retAddr 0, .retAddr 0, .retAddr 0, .retAddr 0] [] (hp nS M) Q = Q (some (.int (wnS s (c + 1 - n)).2)) (hp nS M) := by
  rw [b_69_0]
  refine l_up (c + 1 - n) (fun k => ∀ z, am_Wp (d + 1) 69 7 [.ref 45, .int (nI n), .int (wnS s k).2, .int (wnS s k).1, .int (nI k), z] [] (hp nS M) Q = Q (some (.int (wnS s (c + 1 - n)).2)) (hp nS M)) (fun z => ?_) (fun k hk ih z => ?_) _
  · rw [b_69_7, hc, nI_add, if_pos (by rw [lt_n (by omega) (by omega)]; omega), b_69_45]
  · rw [b_69_7, hc, nI_add, if_neg (by rw [lt_n (by omega) (by omega)]; omega), b_69_18, x_sumFrom hc (by omega) h14, am_ans_some, b_69_25, hs k (by omega)]
    by_cases h : (wnS s k).1 < s k
    · rw [if_neg (not_le' h), b_69_33, b_69_39, nI_1]
      rw [wnS_pos h] at ih
      exact ih _
    · rw [if_pos (le_of' h), b_69_39, nI_1]
      rw [wnS_neg h] at ih
      exact ih _
theorem m_window {d nS n c : Nat} {w : Int32} {M : am_M} {Q : Option Value → am_H → Prop} (s : Nat → Int32) (hs : ∀ a, a + n ≤ c → sI (fun k => M 227 (a + k)) n = s a) (hc : M 205 45 = nI c) (h1 : 1 ≤ n) (h14 : c ≤ 14) (hn : n ≤ 14) : am_Wp (d + 1) 259 28 [.ref 205, .int (nI n), .int w, .retAddr 0, .retAddr 0, .retAddr 0] [] (hp nS M) Q = Q (some (.int (if ¬ w = 0 then (wnS s (c + 1 - n)).2 else (wnS s (c + 1 - n)).1))) (hp nS M) := by
  rw [b_259_28]
  refine l_up (c + 1 - n) (fun k => am_Wp (d + 1) 259 36 [.ref 205, .int (nI n), .int w, .int (wnS s k).1, .int (wnS s k).2, .int (nI k)] [] (hp nS M) Q = Q (some (.int (if ¬ w = 0 then (wnS s (c + 1 - n)).2 else (wnS s (c + 1 - n)).1))) (hp nS M)) ?_ (fun k hk ih => ?_)
  · rw [b_259_36, hc, nI_add, if_pos (by rw [lt_n (by omega) (by omega)]; omega), b_259_79]
    by_cases hw : w = 0
    · rw [if_neg (fun z => z hw), if_neg (fun z => z hw), b_259_83, b_259_89]
    · rw [if_pos hw, if_pos hw, b_259_87, b_259_89]
  · rw [b_259_36, hc, nI_add, if_neg (by rw [lt_n (by omega) (by omega)]; omega), b_259_47, m_sumFrom (by omega), am_ans_some, b_259_54, hs k (by omega)]
    by_cases h : (wnS s k).1 < s k
    · rw [if_pos h, b_259_61, m_sumFrom (by omega), am_ans_some, b_259_68, b_259_73, nI_1, hs k (by omega)]
      rw [wnS_pos h] at ih
      exact ih
    · rw [if_neg h, b_259_58, b_259_73, nI_1]
      rw [wnS_neg h] at ih
      exact ih
