/-! THE ROW OF PRICES: couples, records, hats, runs -/
def sN (f : Nat → Nat) : Nat → Nat
  | 0 => 0
  | n + 1 => sN f n + f n
theorem sN_congr (f g : Nat → Nat) : ∀ n, (∀ k, k < n → f k = g k) → sN f n = sN g n
  | 0, _ => rfl
  | n + 1, h => by
    show sN f n + f n = sN g n + g n
    rw [sN_congr f g n (fun k hk => h k (by omega)), h n (by omega)]
theorem sN_add (f g : Nat → Nat) : ∀ n, sN (fun k => f k + g k) n = sN f n + sN g n
  | 0 => rfl
  | n + 1 => by
    show sN (fun k => f k + g k) n + (f n + g n) = sN f n + f n + (sN g n + g n)
    rw [sN_add f g n]; omega
def b2n (b : Bool) : Nat := if b then 1 else 0
def cin (q : Nat → Nat) (i m : Nat) : Nat := sN (fun t => b2n (decide (q (i + 1 + t) < q i))) m
def cbk (q : Nat → Nat) (i m : Nat) : Nat := sN (fun t => b2n (decide (q i < q t))) m
def cXt (q : Nat → Nat) (c n : Nat) : Nat := sN (fun i => cin q i (c - 1 - i)) n
def cMt (q : Nat → Nat) (n : Nat) : Nat := sN (fun i => cbk q i i) n
theorem cX_cM (q : Nat → Nat) : ∀ c, cXt q c c = cMt q c
  | 0 => rfl
  | c + 1 => by
    have ih := cX_cM q c
    have e1 : cXt q (c + 1) (c + 1) = cXt q (c + 1) c + cin q c (c + 1 - 1 - c) := rfl
    have e2 : cin q c (c + 1 - 1 - c) = 0 := by rw [show c + 1 - 1 - c = 0 by omega]; rfl
    have e3 : cXt q (c + 1) c = sN (fun i => cin q i (c - 1 - i) + b2n (decide (q c < q i))) c := by
      refine sN_congr _ _ c (fun i hi => ?_)
      rw [show c + 1 - 1 - i = (c - 1 - i) + 1 by omega]
      show cin q i (c - 1 - i) + b2n (decide (q (i + 1 + (c - 1 - i)) < q i)) = _
      rw [show i + 1 + (c - 1 - i) = c by omega]
    rw [e1, e2, e3, sN_add]
    show cXt q c c + cbk q c c + 0 = cMt q c + cbk q c c
    omega
theorem x_couples {d nS c : Nat} {M : am_M} {Q : Option Value → am_H → Prop} (q : Nat → Nat) (hq : ∀ k, k < c → M 46 k = nI (q k)) (hb : ∀ k, q k ≤ 99) (hc : M 45 1 = nI c) (h14 : c ≤ 14) : am_Wp d 72 0 [.ref 45, .retAddr 0, .retAddr 0, .retAddr 0] [] (hp nS M) Q = Q (some (.int (nI (cXt q c c)))) (hp nS M) := by
  rw [b_72_0]
  refine l_up c (fun i => ∀ z, am_Wp d 72 4 [.ref 45, .int (nI (cXt q c i)), .int (nI i), z] [] (hp nS M) Q = Q (some (.int (nI (cXt q c c)))) (hp nS M)) (fun z => ?_) (fun i hi ih z => ?_) _
  · rw [b_72_4, hc, if_pos (by rw [le_n (by omega) (by omega)]; omega), b_72_54]
  · rw [b_72_4, hc, if_neg (by rw [le_n (by omega) (by omega)]; omega), b_72_12, nI_1]
    refine l_up (c - 1 - i) (fun m => am_Wp d 72 16 [.ref 45, .int (nI (cXt q c i + cin q i m)), .int (nI i), .int (nI (i + 1 + m))] [] (hp nS M) Q = Q (some (.int (nI (cXt q c c)))) (hp nS M)) ?_ (fun m hm ih2 => ?_)
    · rw [b_72_16, hc, if_pos (by rw [le_n (by omega) (by omega)]; omega), b_72_48, nI_1]
      exact ih _
    · rw [b_72_16, hc, if_neg (by rw [le_n (by omega) (by omega)]; omega), b_72_24 (by first | exact in_n (by omega) (by omega) | (simp only [li, nI_add, pk_mul]; exact in_n (by omega) (by omega))) (by first | exact in_n (by omega) (by omega) | (simp only [li, nI_add, pk_mul]; exact in_n (by omega) (by omega))), cl_n (by omega), cl_n (by omega), hq i (by omega), hq (i + 1 + m) (by omega)]
      have h1 := hb i
      have h2 := hb (i + 1 + m)
      by_cases h : q (i + 1 + m) < q i
      · rw [if_neg (by rw [le_n (by omega) (by omega)]; omega), b_72_39, b_72_42, nI_1, nI_1]
        have e : cXt q c i + cin q i (m + 1) = cXt q c i + cin q i m + 1 := by
          show cXt q c i + (cin q i m + b2n (decide (q (i + 1 + m) < q i))) = _
          simp only [h, decide_true, b2n, if_true]; omega
        rw [e] at ih2
        exact ih2
      · rw [if_pos (by rw [le_n (by omega) (by omega)]; omega), b_72_42, nI_1]
        have e : cXt q c i + cin q i (m + 1) = cXt q c i + cin q i m := by
          show cXt q c i + (cin q i m + b2n (decide (q (i + 1 + m) < q i))) = _
          simp only [h, decide_false, b2n, Bool.false_eq_true, if_false]; omega
        rw [e] at ih2
        exact ih2
/-- records: how many, the greatest so far -/
def rcB (q : Nat → Nat) (i : Nat) (s : Nat × Nat) : Nat × Nat := if s.2 < q i then (s.1 + 1, q i) else s
def rcS (q : Nat → Nat) : Nat → Nat × Nat := itr (rcB q) (0, 0)
theorem rcS_pos {q : Nat → Nat} {k : Nat} (h : (rcS q k).2 < q k) : rcS q (k + 1) = ((rcS q k).1 + 1, q k) := if_pos h
theorem rcS_neg {q : Nat → Nat} {k : Nat} (h : ¬ (rcS q k).2 < q k) : rcS q (k + 1) = rcS q k := if_neg h
theorem rcS_b (q : Nat → Nat) (hb : ∀ k, q k ≤ 99) : ∀ n, (rcS q n).2 ≤ 99 ∧ (∀ k, k < n → q k ≤ (rcS q n).2) ∧ ((rcS q n).2 = 0 ∨ ∃ k, k < n ∧ q k = (rcS q n).2)
  | 0 => ⟨Nat.zero_le _, fun k hk => absurd hk (by omega), Or.inl rfl⟩
  | n + 1 => by
    obtain ⟨h1, h2, h3⟩ := rcS_b q hb n
    by_cases h : (rcS q n).2 < q n
    · rw [rcS_pos h]
      refine ⟨hb n, fun k hk => ?_, Or.inr ⟨n, by omega, rfl⟩⟩
      by_cases hk' : k = n
      · subst hk'; exact Nat.le_refl _
      · have := h2 k (by omega)
        show q k ≤ q n
        omega
    · rw [rcS_neg h]
      refine ⟨h1, fun k hk => ?_, ?_⟩
      · by_cases hk' : k = n
        · subst hk'; omega
        · exact h2 k (by omega)
      · rcases h3 with h3 | ⟨k, hk, h3⟩
        · exact Or.inl h3
        · exact Or.inr ⟨k, by omega, h3⟩
theorem x_records {d nS c : Nat} {M : am_M} {Q : Option Value → am_H → Prop} (q : Nat → Nat) (hq : ∀ k, k < c → M 46 k = nI (q k)) (hb : ∀ k, q k ≤ 99) (hc : M 45 1 = nI c) (h14 : c ≤ 14) : am_Wp d 73 0 [.ref 45, .retAddr 0, .retAddr 0, .retAddr 0] [] (hp nS M) Q = Q (some (.int (nI (rcS q c).1))) (hp nS M) := by
  rw [b_73_0]
  refine l_up c (fun i => am_Wp d 73 6 [.ref 45, .int (nI (rcS q i).1), .int (nI (rcS q i).2), .int (nI i)] [] (hp nS M) Q = Q (some (.int (nI (rcS q c).1))) (hp nS M)) ?_ (fun i hi ih => ?_)
  · rw [b_73_6, hc, if_pos (by rw [le_n (by omega) (by omega)]; omega), b_73_40]
  · have h1 := hb i
    have h2 := (rcS_b q hb i).1
    rw [b_73_6, hc, if_neg (by rw [le_n (by omega) (by omega)]; omega), b_73_14 (by first | exact in_n (by omega) (by omega) | (simp only [li, nI_add, pk_mul]; exact in_n (by omega) (by omega))), cl_n (by omega), hq i hi]
    by_cases h : (rcS q i).2 < q i
    · rw [if_neg (by rw [le_n (by omega) (by omega)]; omega), b_73_24 (by first | exact in_n (by omega) (by omega) | (simp only [li, nI_add, pk_mul]; exact in_n (by omega) (by omega))), b_73_34, cl_n (by omega), hq i hi, nI_1, nI_1]
      rw [rcS_pos h] at ih
      exact ih
    · rw [if_pos (by rw [le_n (by omega) (by omega)]; omega), b_73_34, nI_1]
      rw [rcS_neg h] at ih
      exact ih
def dst (a b : Nat) : Nat := if a ≤ b then b - a else a - b
theorem abs_n {a b : Nat} (ha : a < 1000000) (hb : b < 1000000) : (if (0 : Int32) ≤ nI a - nI b then nI a - nI b else -(nI a - nI b)) = nI (dst a b) := by
  unfold dst
  by_cases h : a ≤ b
  · rw [if_pos h]
    by_cases h' : a = b
    · subst h'
      rw [pk_sub (Nat.le_refl _), Nat.sub_self]
      rfl
    · rw [if_neg (not_le' (pk_sneg (by omega) (by omega))), Int32.neg_sub, pk_sub h]
  · rw [if_neg h, pk_sub (by omega)]
    exact if_pos (by have : nI 0 ≤ nI (a - b) := (nI_leI (by omega) (by omega)).mpr (by omega); exact this)
theorem apart_n {a b : Nat} (ha : a < 1000000) (hb : b < 1000000) : (if nI a ≤ nI b then nI b - nI a else nI a - nI b) = nI (dst a b) := by
  unfold dst
  by_cases h : a ≤ b
  · rw [if_pos h, if_pos (by rw [le_n (by omega) (by omega)]; omega), pk_sub h]
  · rw [if_neg h, if_neg (by rw [le_n (by omega) (by omega)]; omega), pk_sub (by omega)]
def htF (q : Nat → Nat) (i : Nat) : Nat := if i = 0 then 0 else dst (q i) (q (i - 1))
theorem x_hats {d nS c : Nat} {M : am_M} {Q : Option Value → am_H → Prop} (q : Nat → Nat) (hq : ∀ k, k < c → M 46 k = nI (q k)) (hb : ∀ k, q k ≤ 99) (hc : M 45 1 = nI c) (h14 : c ≤ 14) : am_Wp (d + 1) 74 0 [.ref 45, .retAddr 0, .retAddr 0] [] (hp nS M) Q = Q (some (.int (nI (sN (htF q) c)))) (hp nS M) := by
  rw [b_74_0]
  by_cases h0 : c = 0
  · subst h0
    rw [b_74_4, hc, if_pos (by decide), b_74_39]
    rfl
  · refine l_up2 1 c (fun i => am_Wp (d + 1) 74 4 [.ref 45, .int (nI (sN (htF q) i)), .int (nI i)] [] (hp nS M) Q = Q (some (.int (nI (sN (htF q) c)))) (hp nS M)) (by omega) ?_ (fun i h1 hi ih => ?_)
    · rw [b_74_4, hc, if_pos (by rw [le_n (by omega) (by omega)]; omega), b_74_39]
    · have h2 := hb i
      have h3 := hb (i - 1)
      rw [b_74_4, hc, if_neg (by rw [le_n (by omega) (by omega)]; omega), b_74_12 (by first | exact in_n (by omega) (by omega) | (simp only [li, nI_add, pk_mul]; exact in_n (by omega) (by omega))) (by rw [sub1 h1]; exact in_n (by omega) (by omega)), sub1 h1, cl_n (by omega), cl_n (by omega), hq i hi, hq (i - 1) (by omega), c_298, am_ans_some, b_74_31, abs_n (by omega) (by omega), nI_add, nI_1]
      have e : sN (htF q) (i + 1) = sN (htF q) i + dst (q i) (q (i - 1)) := by
        show sN (htF q) i + htF q i = _
        unfold htF
        rw [if_neg (by omega)]
      rw [e] at ih
      exact ih
def rnT (q : Nat → Nat) : Nat → Nat
  | 0 => 0
  | i + 1 => if 0 < i ∧ q (i - 1) < q i then rnT q i + 1 else 1
def rnM (q : Nat → Nat) : Nat → Nat
  | 0 => 0
  | i + 1 => if rnM q i < rnT q (i + 1) then rnT q (i + 1) else rnM q i
theorem rnT_le (q : Nat → Nat) : ∀ i, rnT q i ≤ i
  | 0 => Nat.le_refl _
  | i + 1 => by
    have := rnT_le q i
    unfold rnT
    split <;> omega
theorem rnM_le (q : Nat → Nat) : ∀ i, rnM q i ≤ i
  | 0 => Nat.le_refl _
  | i + 1 => by
    have := rnM_le q i
    have := rnT_le q (i + 1)
    unfold rnM
    split <;> omega
theorem x_runs {d nS c : Nat} {M : am_M} {Q : Option Value → am_H → Prop} (q : Nat → Nat) (hq : ∀ k, k < c → M 46 k = nI (q k)) (hb : ∀ k, q k ≤ 99) (hc : M 45 1 = nI c) (h14 : c ≤ 14) : am_Wp (d + 1) 75 0 [.ref 45, .retAddr 0, .retAddr 0, .retAddr 0] [] (hp nS M) Q = Q (some (.int (nI (rnM q c)))) (hp nS M) := by
  rw [b_75_0]
  refine l_up c (fun i => am_Wp (d + 1) 75 6 [.ref 45, .int (nI (rnM q i)), .int (nI (rnT q i)), .int (nI i)] [] (hp nS M) Q = Q (some (.int (nI (rnM q c)))) (hp nS M)) ?_ (fun i hi ih => ?_)
  · rw [b_75_6, hc, if_pos (by rw [le_n (by omega) (by omega)]; omega), b_75_55]
  · have h1 := rnT_le q (i + 1)
    have h2 := rnM_le q i
    have tail : ∀ s, s = nI (rnT q (i + 1)) → am_Wp (d + 1) 75 42 [.ref 45, .int (nI (rnM q i)), .int (nI (rnT q i)), .int (nI i)] [.int s] (hp nS M) Q = Q (some (.int (nI (rnM q c)))) (hp nS M) := by
      intro s hs
      subst hs
      rw [b_75_42, c_297, am_ans_some, b_75_48, nI_1]
      by_cases h : rnM q i < rnT q (i + 1)
      · rw [if_pos (by rw [lt_n (by omega) (by omega)]; exact h)]
        have e : rnM q (i + 1) = rnT q (i + 1) := if_pos h
        rw [e] at ih
        exact ih
      · rw [if_neg (by rw [lt_n (by omega) (by omega)]; exact h)]
        have e : rnM q (i + 1) = rnM q i := if_neg h
        rw [e] at ih
        exact ih
    rw [b_75_6, hc, if_neg (by rw [le_n (by omega) (by omega)]; omega), b_75_14]
    by_cases h0 : i = 0
    · subst h0
      rw [if_pos (by decide), b_75_41]
      exact tail 1 rfl
    · have h3 := hb i
      have h4 := hb (i - 1)
      rw [if_neg (by rw [li, le_n (by omega) (by omega)]; omega), b_75_18 (by first | exact in_n (by omega) (by omega) | (simp only [li, nI_add, pk_mul]; exact in_n (by omega) (by omega))) (by rw [sub1 (by omega)]; exact in_n (by omega) (by omega)), sub1 (by omega), cl_n (by omega), cl_n (by omega), hq i hi, hq (i - 1) (by omega)]
      by_cases h : q (i - 1) < q i
      · rw [if_neg (by rw [le_n (by omega) (by omega)]; omega), b_75_35]
        exact tail _ (by have e : rnT q (i + 1) = rnT q i + 1 := if_pos ⟨by omega, h⟩; rw [nI_1, e])
      · rw [if_pos (by rw [le_n (by omega) (by omega)]; omega), b_75_41]
        exact tail 1 (by have e : rnT q (i + 1) = 1 := if_neg (fun z => h z.2); rw [e]; rfl)
