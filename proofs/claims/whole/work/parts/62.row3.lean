/-! THE ROW OF PRICES: the reference's one loop -/
def alB (q : Nat → Nat) (i : Nat) : Nat → Bool
  | 0 => true
  | m + 1 => alB q i m && decide (q m < q i)
def bI (b : Bool) : Int32 := if b then 1 else 0
theorem alB_all (q : Nat → Nat) (i : Nat) : ∀ m, alB q i m = true ↔ ∀ k, k < m → q k < q i
  | 0 => ⟨fun _ k hk => absurd hk (by omega), fun _ => rfl⟩
  | m + 1 => by
    have ih := alB_all q i m
    unfold alB
    rw [Bool.and_eq_true, ih, decide_eq_true_eq]
    constructor
    · intro ⟨h1, h2⟩ k hk
      by_cases h : k = m
      · subst h; exact h2
      · exact h1 k (by omega)
    · intro h
      exact ⟨fun k hk => h k (by omega), h m (by omega)⟩
theorem alB_rc (q : Nat → Nat) (hb : ∀ k, q k ≤ 99) (i : Nat) (h1 : 1 ≤ q i) : alB q i i = decide ((rcS q i).2 < q i) := by
  obtain ⟨-, h2, h3⟩ := rcS_b q hb i
  by_cases h : (rcS q i).2 < q i
  · rw [decide_eq_true h]
    exact (alB_all q i i).mpr (fun k hk => by have := h2 k hk; omega)
  · rw [decide_eq_false h]
    cases h4 : alB q i i with
    | false => rfl
    | true =>
      rw [alB_all] at h4
      exfalso
      rcases h3 with h3 | ⟨k, hk, h3⟩
      · omega
      · have := h4 k hk; omega
theorem m_rowIn {d nS c i : Nat} {w x3 x4 x5 x6 : Int32} {M : am_M} {Q : Option Value → am_H → Prop} {R : Prop} (q : Nat → Nat) (hq : ∀ k, k < c → M 227 k = nI (q k)) (hb : ∀ k, q k ≤ 99) (C : Nat) (hi : i < c) (h14 : c ≤ 14)
    (k : am_Wp d 261 111 [.ref 205, .int w, .int (nI (C + cbk q i i)), .int x3, .int x4, .int x5, .int x6, .int (nI i), .int (bI (alB q i i)), .int (nI i)] [] (hp nS M) Q = R) : am_Wp d 261 57 [.ref 205, .int w, .int (nI C), .int x3, .int x4, .int x5, .int x6, .int (nI i), .int 1, .int 0] [] (hp nS M) Q = R := by
  refine l_up i (fun m => am_Wp d 261 57 [.ref 205, .int w, .int (nI (C + cbk q i m)), .int x3, .int x4, .int x5, .int x6, .int (nI i), .int (bI (alB q i m)), .int (nI m)] [] (hp nS M) Q = R) ?_ (fun m hm ih => ?_)
  · rw [b_261_57, if_pos (by rw [le_n (by omega) (by omega)]; omega)]
    exact k
  · have h1 := hb i
    have h2 := hb m
    have e0 : cbk q i (m + 1) = cbk q i m + b2n (decide (q i < q m)) := rfl
    have e1 : alB q i (m + 1) = (alB q i m && decide (q m < q i)) := rfl
    rw [b_261_57, if_neg (by rw [le_n (by omega) (by omega)]; omega), b_261_64 (by first | exact in_n (by omega) (by omega) | (simp only [li, nI_add, pk_mul]; exact in_n (by omega) (by omega))) (by first | exact in_n (by omega) (by omega) | (simp only [li, nI_add, pk_mul]; exact in_n (by omega) (by omega))), cl_n (by omega), cl_n (by omega), hq m (by omega), hq i hi]
    rw [e0, e1] at ih
    by_cases ha : q i < q m
    · rw [if_neg (by rw [le_n (by omega) (by omega)]; omega), b_261_81, b_261_85 (by first | exact in_n (by omega) (by omega) | (simp only [li, nI_add, pk_mul]; exact in_n (by omega) (by omega))) (by first | exact in_n (by omega) (by omega) | (simp only [li, nI_add, pk_mul]; exact in_n (by omega) (by omega))), cl_n (by omega), cl_n (by omega), hq m (by omega), hq i hi, if_neg (by rw [lt_n (by omega) (by omega)]; omega), b_261_102, b_261_105, nI_1, nI_1]
      rw [decide_eq_true ha, decide_eq_false (show ¬ q m < q i by omega), Bool.and_false] at ih
      exact ih
    · rw [if_pos (by rw [le_n (by omega) (by omega)]; omega), b_261_85 (by first | exact in_n (by omega) (by omega) | (simp only [li, nI_add, pk_mul]; exact in_n (by omega) (by omega))) (by first | exact in_n (by omega) (by omega) | (simp only [li, nI_add, pk_mul]; exact in_n (by omega) (by omega))), cl_n (by omega), cl_n (by omega), hq m (by omega), hq i hi]
      rw [decide_eq_false ha] at ih
      by_cases hl : q m < q i
      · rw [if_pos (by rw [lt_n (by omega) (by omega)]; omega), b_261_105, nI_1]
        rw [decide_eq_true hl, Bool.and_true] at ih
        exact ih
      · rw [if_neg (by rw [lt_n (by omega) (by omega)]; omega), b_261_102, b_261_105, nI_1]
        rw [decide_eq_false hl, Bool.and_false] at ih
        exact ih
def rwV (q : Nat → Nat) (c : Nat) (w : Int32) : Int32 := if ¬ w = 1 then (if ¬ w = 2 then (if ¬ w = 3 then nI (rnM q c) else nI (sN (htF q) c)) else nI (rcS q c).1) else nI (cMt q c)
theorem m_row {d nS c : Nat} {w : Int32} {M : am_M} {Q : Option Value → am_H → Prop} (q : Nat → Nat) (hq : ∀ k, k < c → M 227 k = nI (q k)) (hb : ∀ k, q k ≤ 99) (hb1 : ∀ k, k < c → 1 ≤ q k) (hc : M 205 45 = nI c) (h14 : c ≤ 14) : am_Wp (d + 1) 261 26 [.ref 205, .int w, .retAddr 0, .retAddr 0, .retAddr 0, .retAddr 0, .retAddr 0, .retAddr 0, .retAddr 0, .retAddr 0] [] (hp nS M) Q = Q (some (.int (rwV q c w))) (hp nS M) := by
  rw [b_261_26]
  refine l_up c (fun i => ∀ z8 z9, am_Wp (d + 1) 261 42 [.ref 205, .int w, .int (nI (cMt q i)), .int (nI (rcS q i).1), .int (nI (sN (htF q) i)), .int (nI (rnM q i)), .int (nI (rnT q i)), .int (nI i), z8, z9] [] (hp nS M) Q = Q (some (.int (rwV q c w))) (hp nS M)) (fun z8 z9 => ?_) (fun i hi ih z8 z9 => ?_) _ _
  · rw [b_261_42, hc, if_pos (by rw [le_n (by omega) (by omega)]; omega), b_261_200]
    unfold rwV
    by_cases h1 : w = 1
    · rw [if_neg (fun z => z h1), if_neg (fun z => z h1), b_261_205, b_261_230]
    · rw [if_pos h1, if_pos h1, b_261_209]
      by_cases h2 : w = 2
      · rw [if_neg (fun z => z h2), if_neg (fun z => z h2), b_261_214, b_261_230]
      · rw [if_pos h2, if_pos h2, b_261_218]
        by_cases h3 : w = 3
        · rw [if_neg (fun z => z h3), if_neg (fun z => z h3), b_261_223, b_261_230]
        · rw [if_pos h3, if_pos h3, b_261_228, b_261_230]
  · rw [b_261_42, hc, if_neg (by rw [le_n (by omega) (by omega)]; omega), b_261_51]
    refine m_rowIn q hq hb (cMt q i) hi h14 ?_
    have eC : cMt q (i + 1) = cMt q i + cbk q i i := rfl
    rw [← eC]
    have h1 := rnT_le q (i + 1)
    have h2 := rnM_le q i
    -- behind the runs
    have tail : ∀ s x8 x9, s = nI (rnT q (i + 1)) → am_Wp (d + 1) 261 182 [.ref 205, .int w, .int (nI (cMt q (i + 1))), .int (nI (rcS q (i + 1)).1), .int (nI (sN (htF q) (i + 1))), .int (nI (rnM q i)), .int (nI (rnT q i)), .int (nI i), .int x8, .int x9] [.int s] (hp nS M) Q = Q (some (.int (rwV q c w))) (hp nS M) := by
      intro s x8 x9 hs
      subst hs
      rw [b_261_182, c_239, am_ans_some, b_261_192, nI_1]
      by_cases h : rnM q i < rnT q (i + 1)
      · rw [if_pos (by rw [le_n (by omega) (by omega)]; omega)]
        have e : rnM q (i + 1) = rnT q (i + 1) := if_pos h
        rw [e] at ih
        exact ih _ _
      · have e : rnM q (i + 1) = rnM q i := if_neg h
        rw [e] at ih
        by_cases h' : rnM q i = rnT q (i + 1)
        · rw [← h', if_pos (Int32.le_refl _)]
          rw [← h'] at ih
          exact ih _ _
        · rw [if_neg (by rw [le_n (by omega) (by omega)]; omega)]
          exact ih _ _
    have mid : ∀ x8 x9, am_Wp (d + 1) 261 150 [.ref 205, .int w, .int (nI (cMt q (i + 1))), .int (nI (rcS q (i + 1)).1), .int (nI (sN (htF q) (i + 1))), .int (nI (rnM q i)), .int (nI (rnT q i)), .int (nI i), .int x8, .int x9] [] (hp nS M) Q = Q (some (.int (rwV q c w))) (hp nS M) := by
      intro x8 x9
      rw [b_261_150]
      by_cases h0 : i = 0
      · subst h0
        rw [if_pos (by decide), b_261_181]
        exact tail 1 _ _ rfl
      · have h3 := hb i
        have h4 := hb (i - 1)
        rw [if_neg (by rw [li, le_n (by omega) (by omega)]; omega), b_261_155 (by first | exact in_n (by omega) (by omega) | (simp only [li, nI_add, pk_mul]; exact in_n (by omega) (by omega))) (by rw [sub1 (by omega)]; exact in_n (by omega) (by omega)), sub1 (by omega), cl_n (by omega), cl_n (by omega), hq i hi, hq (i - 1) (by omega)]
        by_cases h : q (i - 1) < q i
        · rw [if_neg (by rw [le_n (by omega) (by omega)]; omega), b_261_174]
          exact tail _ _ _ (by have e : rnT q (i + 1) = rnT q i + 1 := if_pos ⟨by omega, h⟩; rw [nI_1, e])
        · rw [if_pos (by rw [le_n (by omega) (by omega)]; omega), b_261_181]
          exact tail 1 _ _ (by have e : rnT q (i + 1) = 1 := if_neg (fun z => h z.2); rw [e]; rfl)
    have step : ∀ x8 x9, am_Wp (d + 1) 261 120 [.ref 205, .int w, .int (nI (cMt q (i + 1))), .int (nI (rcS q (i + 1)).1), .int (nI (sN (htF q) i)), .int (nI (rnM q i)), .int (nI (rnT q i)), .int (nI i), .int x8, .int x9] [] (hp nS M) Q = Q (some (.int (rwV q c w))) (hp nS M) := by
      intro x8 x9
      rw [b_261_120]
      by_cases h0 : i = 0
      · have e : sN (htF q) (i + 1) = sN (htF q) i := by
          show sN (htF q) i + htF q i = _
          unfold htF
          rw [if_pos h0]; omega
        rw [e] at mid
        rw [if_pos (by rw [h0]; decide)]
        exact mid _ _
      · have h3 := hb i
        have h4 := hb (i - 1)
        have e : sN (htF q) (i + 1) = sN (htF q) i + dst (q i) (q (i - 1)) := by
          show sN (htF q) i + htF q i = _
          unfold htF
          rw [if_neg h0]
        rw [e] at mid
        rw [if_neg (by rw [li, le_n (by omega) (by omega)]; omega), b_261_125 (by first | exact in_n (by omega) (by omega) | (simp only [li, nI_add, pk_mul]; exact in_n (by omega) (by omega))) (by rw [sub1 (by omega)]; exact in_n (by omega) (by omega)), sub1 (by omega), cl_n (by omega), cl_n (by omega), hq i hi, hq (i - 1) (by omega), c_263, am_ans_some, b_261_147, apart_n (by omega) (by omega), nI_add]
        exact mid _ _
    rw [b_261_111, alB_rc q hb i (hb1 i hi)]
    by_cases h : (rcS q i).2 < q i
    · rw [decide_eq_true h]
      have e : (rcS q (i + 1)).1 = (rcS q i).1 + 1 := by rw [rcS_pos h]
      rw [e] at step
      rw [if_neg (by decide), b_261_116, nI_1]
      exact step _ _
    · rw [decide_eq_false h]
      have e : (rcS q (i + 1)).1 = (rcS q i).1 := by rw [rcS_neg h]
      rw [e] at step
      rw [if_pos (by decide)]
      exact step _ _
