section
/-! THE PROGRAM SPLITS ITS TAPE -/
theorem ite_b {C : Prop} [Decidable C] {b : Bool} (h : C ↔ b = true) : (if C then (1 : Int32) else 0) = bI b := by
  cases b with
  | true => rw [if_pos (h.mpr rfl)]; rfl
  | false => rw [if_neg (fun z => by cases h.mp z)]; rfl
theorem isD_i {b : Nat} (hb : b < 256) : (¬ nI b < 48 ∧ ¬ 57 < nI b) ↔ isD b = true := by
  unfold isD
  rw [Bool.and_eq_true, decide_eq_true_eq, decide_eq_true_eq, show (nI b < (48 : Int32)) = (b < 48) from lt_n (b := 48) (by omega) (by omega), show ((57 : Int32) < nI b) = (57 < b) from lt_n (a := 57) (by omega) (by omega)]
  omega
theorem isA_i {b : Nat} (hb : b < 256) : ((¬ nI b < 97 ∧ ¬ 122 < nI b) ∨ (¬ nI b < 65 ∧ ¬ 90 < nI b)) ↔ isA b = true := by
  unfold isA
  rw [Bool.or_eq_true, Bool.and_eq_true, Bool.and_eq_true, decide_eq_true_eq, decide_eq_true_eq, decide_eq_true_eq, decide_eq_true_eq, show (nI b < (97 : Int32)) = (b < 97) from lt_n (b := 97) (by omega) (by omega), show ((122 : Int32) < nI b) = (122 < b) from lt_n (a := 122) (by omega) (by omega), show (nI b < (65 : Int32)) = (b < 65) from lt_n (b := 65) (by omega) (by omega), show ((90 : Int32) < nI b) = (90 < b) from lt_n (a := 90) (by omega) (by omega)]
  omega
theorem isA_32 {b : Nat} (h : isA b = true) : b ≠ 32 := by
  unfold isA at h
  rw [Bool.or_eq_true, Bool.and_eq_true, Bool.and_eq_true, decide_eq_true_eq, decide_eq_true_eq, decide_eq_true_eq, decide_eq_true_eq] at h
  omega
theorem DA_no {b : Nat} (h : isD b = true) : isA b = false := by
  unfold isD at h
  rw [Bool.and_eq_true, decide_eq_true_eq, decide_eq_true_eq] at h
  unfold isA
  rw [decide_eq_false (show ¬ 97 ≤ b by omega), decide_eq_false (show ¬ 65 ≤ b by omega)]
  rfl
theorem x_isD {d nS n i : Nat} {tp : Nat → Nat} {M : am_M} {Q : Option Value → am_H → Prop} (hT : TC M n tp) (hi : i ≤ 400) : am_Wp d 45 0 [.ref 187, .int (nI i)] [] (hp nS M) Q = Q (some (.int (bI (decide (i < n) && isD (tp i))))) (hp nS M) := by
  have hl := hT.l
  have h0 : (M 187 0 ≤ nI i) = (n ≤ i) := by rw [hT.n, le_n (by omega) (by omega)]
  have vp : ¬ (M 187 0 ≤ nI i) → vp_in (nI i) 400 := fun h => by rw [h0] at h; exact in_n (by omega) (by omega)
  rw [c_45 vp (fun h _ => vp h)]
  refine congrArg (fun v => Q (some (.int v)) (hp nS M)) (ite_b ?_)
  rw [Bool.and_eq_true, decide_eq_true_eq, h0, cl_n (by omega)]
  by_cases c : i < n
  · rw [hT.t i c, isD_i (hT.b i c)]
    exact ⟨fun z => ⟨c, z.2⟩, fun z => ⟨by omega, z.2⟩⟩
  · exact ⟨fun z => absurd z.1 (fun z => z (by omega)), fun z => absurd z.1 c⟩
theorem x_isA {d nS n i : Nat} {tp : Nat → Nat} {M : am_M} {Q : Option Value → am_H → Prop} (hT : TC M n tp) (hi : i ≤ 400) : am_Wp d 46 0 [.ref 187, .int (nI i)] [] (hp nS M) Q = Q (some (.int (bI (decide (i < n) && isA (tp i))))) (hp nS M) := by
  have hl := hT.l
  have h0 : (M 187 0 ≤ nI i) = (n ≤ i) := by rw [hT.n, le_n (by omega) (by omega)]
  have vp : ¬ (M 187 0 ≤ nI i) → vp_in (nI i) 400 := fun h => by rw [h0] at h; exact in_n (by omega) (by omega)
  rw [c_46 vp (fun h _ => vp h) (fun h _ _ => vp h) (fun h _ => vp h) (fun h _ _ => vp h) (fun h _ _ _ => vp h)]
  refine congrArg (fun v => Q (some (.int v)) (hp nS M)) (ite_b ?_)
  rw [Bool.and_eq_true, decide_eq_true_eq, h0, cl_n (by omega)]
  by_cases c : i < n
  · rw [hT.t i c, ← isA_i (hT.b i c)]
    refine ⟨fun z => ⟨c, z.2.elim (fun z => Or.inr z.2) (fun z => z.2.elim (fun z2 => Or.inl ⟨z.1, not_lt' z2⟩) Or.inr)⟩, fun z => ⟨by omega, ?_⟩⟩
    by_cases q : nI (tp i) < 97
    · exact Or.inl ⟨q, z.2.elim (fun z => absurd q z.1) id⟩
    · exact Or.inr ⟨q, z.2.elim (fun z => Or.inl (le_of' z.2)) Or.inr⟩
  · exact ⟨fun z => absurd z.1 (fun z => z (by omega)), fun z => absurd z.1 c⟩
theorem x_beh {d nS n i : Nat} {tp : Nat → Nat} {M : am_M} {Q : Option Value → am_H → Prop} (hT : TC M n tp) (hi : i < n) : am_Wp (d + 1) 44 0 [.ref 187, .int (nI i), .retAddr 0, .retAddr 0] [] (hp nS M) Q = Q (some (.int (nI (tkE tp n i)))) (hp nS M) := by
  have hl := hT.l
  have kD : ∀ m k, n - k = m → k ≤ n → am_Wp (d + 1) 44 24 [.ref 187, .int (nI i), .int (bI true), .int (nI k)] [] (hp nS M) Q = Q (some (.int (nI (rE isD tp n k)))) (hp nS M) := by
    intro m
    induction m with
    | zero =>
      intro k hm hk
      rw [b_44_24, hT.n, if_pos (by rw [le_n (by omega) (by omega)]; omega), b_44_61, rE_f (by omega)]
    | succ m ih =>
      intro k hm hk
      rw [b_44_24, hT.n, if_neg (by rw [le_n (by omega) (by omega)]; omega), b_44_32, if_neg (show ¬ bI true = 0 by decide), b_44_36, x_isD hT (by omega), am_ans_some, b_44_41, decide_eq_true (show k < n by omega), Bool.true_and]
      cases hd : isD (tp k) with
      | true => rw [if_neg (show ¬ bI true = 0 by decide), b_44_44, b_44_55, nI_1, ih (k + 1) (by omega) (by omega), rE_t (by omega) hd]
      | false => rw [if_pos (show bI false = 0 from rfl), b_44_61, rE_f (fun z => by rw [hd] at z; cases z.2)]
  have kA : ∀ m k, n - k = m → k ≤ n → am_Wp (d + 1) 44 24 [.ref 187, .int (nI i), .int (bI false), .int (nI k)] [] (hp nS M) Q = Q (some (.int (nI (rE isA tp n k)))) (hp nS M) := by
    intro m
    induction m with
    | zero =>
      intro k hm hk
      rw [b_44_24, hT.n, if_pos (by rw [le_n (by omega) (by omega)]; omega), b_44_61, rE_f (by omega)]
    | succ m ih =>
      intro k hm hk
      rw [b_44_24, hT.n, if_neg (by rw [le_n (by omega) (by omega)]; omega), b_44_32, if_pos (show bI false = 0 from rfl), b_44_47, x_isA hT (by omega), am_ans_some, b_44_52, decide_eq_true (show k < n by omega), Bool.true_and]
      cases hd : isA (tp k) with
      | true => rw [if_neg (show ¬ bI true = 0 by decide), b_44_55, nI_1, ih (k + 1) (by omega) (by omega), rE_t (by omega) hd]
      | false => rw [if_pos (show bI false = 0 from rfl), b_44_61, rE_f (fun z => by rw [hd] at z; cases z.2)]
  rw [b_44_0, x_isD hT (by omega), am_ans_some, b_44_5, decide_eq_true hi, Bool.true_and, nI_1]
  unfold tkE
  cases hd : isD (tp i) with
  | true => rw [if_pos (show ¬ bI true = 0 by decide), if_pos rfl, kD (n - (i + 1)) (i + 1) rfl (by omega)]
  | false =>
    rw [if_neg (fun z => z rfl), if_neg (by decide), b_44_14, x_isA hT (by omega), am_ans_some, b_44_19, decide_eq_true hi, Bool.true_and]
    cases ha : isA (tp i) with
    | true => rw [if_pos (show ¬ bI true = 0 by decide), if_pos rfl, kA (n - (i + 1)) (i + 1) rfl (by omega)]
    | false => rw [if_neg (fun z => z rfl), if_neg (by decide), b_44_22]
theorem x_kw {d nS n a z w : Nat} {tp : Nat → Nat} {M : am_M} {Q : Option Value → am_H → Prop} (hT : TC M n tp) (hR : RO M) (hw : w < 26) (haz : a ≤ z) (hz : z ≤ n) (hl : ∀ k, a ≤ k → k < z → isA (tp k) = true) (h1 : mtW tp a z w → Q (some (.int 1)) (hp nS M)) (h0 : ¬ mtW tp a z w → Q (some (.int 0)) (hp nS M)) : am_Wp (d + 6) 48 0 [.ref 187, .int (nI w), .int (nI a), .int (nI z), .retAddr 0, .retAddr 0, .retAddr 0] [] (hp nS M) Q := by
  have hl4 := hT.l
  obtain ⟨w6, w1, wc⟩ := wl_at hw
  have e7 : nI w * 7 = nI (7 * w) := by rw [show (7 : Int32) = nI 7 from rfl, pk_mul, Nat.mul_comm]
  rw [b_48_0, sub_n haz, e7]
  by_cases c7 : 7 ≤ z - a
  · rw [if_pos (by rw [li, le_n (by omega) (by omega)]; exact c7), b_48_33]
    exact h0 (fun q => by have := q.1; omega)
  rw [if_neg (by rw [li, le_n (by omega) (by omega)]; exact c7), b_48_18, nI_add, x_charAt hR hw (by omega), am_ans_some, b_48_28]
  have h32 : (nI (wC w (z - a)) = 32) = (wL w ≤ z - a) := by
    rw [← wc (z - a) (by omega)]
    have : wC w (z - a) < 2147483648 := by
      unfold wC
      have hh : (List.range 26).all (fun w => (List.range 7).all (fun i => decide (wC w i < 256))) = true := by decide +kernel
      have := of_decide_eq_true (List.all_eq_true.mp (List.all_eq_true.mp hh w (List.mem_range.mpr hw)) (z - a) (List.mem_range.mpr (by omega)))
      unfold wC at this
      omega
    exact eq_n (b := 32) this (by omega)
  by_cases c32 : wL w ≤ z - a
  · have key : ∀ m i, i + m = z - a → (∀ k, k < i → tp (a + k) = wC w k) → am_Wp (d + 6) 48 38 [.ref 187, .int (nI w), .int (nI a), .int (nI z), .int (nI (z - a)), .int (nI (7 * w)), .int (nI i)] [] (hp nS M) Q := by
      intro m
      induction m with
      | zero =>
        intro i hi hk
        have : i = z - a := by omega
        subst this
        rw [b_48_38, if_pos (Int32.le_refl _), b_48_75]
        refine h1 ⟨?_, hk⟩
        rcases Nat.lt_or_ge (wL w) (z - a) with q | q
        · have e := hk (wL w) q
          have e2 : wC w (wL w) = 32 := by rw [wc (wL w) (by omega)]; exact Nat.le_refl _
          exact absurd (e.trans e2) (isA_32 (hl (a + wL w) (by omega) (by omega)))
        · omega
      | succ m ih =>
        intro i hi hk
        have tb : tp (a + i) < 256 := hT.b _ (by omega)
        have cb : wC w i < 256 := by
          have hh : (List.range 26).all (fun w => (List.range 7).all (fun i => decide (wC w i < 256))) = true := by decide +kernel
          exact of_decide_eq_true (List.all_eq_true.mp (List.all_eq_true.mp hh w (List.mem_range.mpr hw)) i (List.mem_range.mpr (by omega)))
        rw [b_48_38, if_neg (by rw [le_n (by omega) (by omega)]; omega), b_48_45, nI_add, x_charAt hR hw (by omega), am_ans_some, b_48_55 (by rw [nI_add]; exact in_n (by omega) (by omega)), nI_add, cl_n (by omega), hT.t (a + i) (by omega)]
        by_cases ce : wC w i = tp (a + i)
        · rw [if_pos (by rw [ce]), b_48_69, nI_1]
          refine ih (i + 1) (by omega) (fun k hk' => ?_)
          by_cases e : k = i
          · rw [e, ce]
          · exact hk k (by omega)
        · rw [if_neg (by rw [eq_n (by omega) (by omega)]; exact ce), b_48_67]
          exact h0 (fun q => ce (q.2 i (by omega)).symm)
    rw [if_pos (by rw [h32]; exact c32), b_48_35]
    exact key (z - a) 0 (by omega) (fun k hk => by omega)
  · rw [if_neg (by rw [h32]; exact c32), b_48_33]
    exact h0 (fun q => by have := q.1; omega)
theorem x_kind {d nS n i : Nat} {tp : Nat → Nat} {M : am_M} {Q : Option Value → am_H → Prop} (hT : TC M n tp) (hR : RO M) (hi : i < n) (hq : Q (some (.int (nI (tkK tp n i)))) (hp nS M)) : am_Wp (d + 7) 47 0 [.ref 187, .int (nI i), .int (nI (tkE tp n i)), .retAddr 0] [] (hp nS M) Q := by
  have hl := hT.l
  have hg := tkE_gt tp n i
  have he := tkE_le tp hi
  rw [b_47_0, x_isD hT (by omega), am_ans_some, b_47_5, decide_eq_true hi, Bool.true_and]
  unfold tkK at hq
  cases hd : isD (tp i) with
  | true =>
    rw [hd, if_pos rfl] at hq
    rw [if_neg (show ¬ bI true = 0 by decide), b_47_8, sub_n (by omega)]
    by_cases c4 : tkE tp n i - i ≤ 4
    · rw [if_pos c4] at hq
      rw [if_neg (by rw [li, lt_n (by omega) (by omega)]; omega), b_47_15, b_47_22]
      exact hq
    · rw [if_neg c4] at hq
      rw [if_pos (by rw [li, lt_n (by omega) (by omega)]; omega), b_47_20, b_47_22]
      exact hq
  | false =>
    rw [hd, if_neg (by decide)] at hq
    rw [if_pos (show bI false = 0 from rfl), b_47_23, x_isA hT (by omega), am_ans_some, b_47_28, decide_eq_true hi, Bool.true_and]
    cases ha : isA (tp i) with
    | true =>
      rw [ha, if_pos rfl] at hq
      rw [if_pos (show ¬ bI true = 0 by decide), b_47_58]
      have hlet : ∀ k, i ≤ k → k < tkE tp n i → isA (tp k) = true := by
        intro k h1 h2
        by_cases e : k = i
        · rw [e]; exact ha
        · have ee : tkE tp n i = rE isA tp n (i + 1) := by unfold tkE; rw [hd, ha, if_neg (by decide), if_pos rfl]
          exact rE_all (n := n) (i := i + 1) (by omega) (by omega)
      have key : ∀ m w, w + m = 26 → fdW (mtW tp i (tkE tp n i)) m w = kwI tp i (tkE tp n i) → am_Wp (d + 7) 47 60 [.ref 187, .int (nI i), .int (nI (tkE tp n i)), .int (nI w)] [] (hp nS M) Q := by
        intro m
        induction m with
        | zero =>
          intro w hw hk
          have : w = 26 := by omega
          subst this
          have hk : 26 = kwI tp i (tkE tp n i) := hk
          rw [if_neg (by omega)] at hq
          rw [b_47_60, if_pos (by decide), b_47_84]
          exact hq
        | succ m ih =>
          intro w hw hk
          rw [b_47_60, if_neg (by rw [li, le_n (by omega) (by omega)]; omega), b_47_66]
          refine x_kw hT hR (by omega) (by omega) he hlet (fun c => ?_) (fun c => ?_)
          · rw [fdW_t c] at hk
            rw [if_pos (by omega), ← hk] at hq
            rw [am_ans_some, b_47_73, if_neg bn1, b_47_76]
            exact hq
          · rw [fdW_f c] at hk
            rw [am_ans_some, b_47_73, if_pos rfl, b_47_78, nI_1]
            exact ih (w + 1) (by omega) hk
      exact key 26 0 (by omega) rfl
    | false =>
      rw [ha, if_neg (by decide)] at hq
      have hb := hT.b i hi
      rw [if_neg (fun z => z rfl), b_47_31 (by first | exact in_n (by omega) (by omega) | (simp only [li, nI_add, pk_mul]; exact in_n (by omega) (by omega))), cl_n (by omega), hT.t i hi, x_indexOf hR hb, am_ans_some, b_47_43]
      have h10 := fdW_le (fun j => sgB j = tp i) 10 0
      by_cases c : sgI (tp i) < 10
      · rw [if_pos c] at hq
        rw [if_pos c, if_pos (by rw [li, le_n (by omega) (by omega)]; omega), b_47_53, adl, b_47_57]
        exact hq
      · rw [if_neg c] at hq
        rw [if_neg c, if_neg (by decide), b_47_48, b_47_57]
        exact hq
theorem x_val {d nS n i z : Nat} {tp : Nat → Nat} {M : am_M} {Q : Option Value → am_H → Prop} (hT : TC M n tp) (hiz : i ≤ z) (hz : z ≤ n) (hd : ∀ k, i ≤ k → k < z → isD (tp k) = true) : am_Wp d 50 0 [.ref 187, .int (nI i), .int (nI z), .retAddr 0, .retAddr 0] [] (hp nS M) Q = Q (some (.int (nI (vlN tp i (z - i))))) (hp nS M) := by
  have hl := hT.l
  have key : ∀ m k, k + m = z - i → am_Wp d 50 5 [.ref 187, .int (nI i), .int (nI z), .int (nI (vlN tp i k)), .int (nI (i + k))] [] (hp nS M) Q = Q (some (.int (nI (vlN tp i (z - i))))) (hp nS M) := by
    intro m
    induction m with
    | zero =>
      intro k hk
      have : k = z - i := by omega
      subst this
      rw [b_50_5, if_pos (by rw [le_n (by omega) (by omega)]; omega), b_50_33]
    | succ m ih =>
      intro k hk
      have h48 := hd (i + k) (by omega) (by omega)
      unfold isD at h48
      rw [Bool.and_eq_true, decide_eq_true_eq, decide_eq_true_eq] at h48
      have ev : nI (vlN tp i k) * 10 + nI (tp (i + k)) - 48 = nI (vlN tp i (k + 1)) := by
        rw [show nI (vlN tp i k) * 10 = nI (vlN tp i k * 10) from pk_mul _ 10, nI_add, show nI (vlN tp i k * 10 + tp (i + k)) - 48 = nI (vlN tp i k * 10 + tp (i + k) - 48) from pk_sub (b := 48) (by omega), vlN, show vlN tp i k * 10 + tp (i + k) - 48 = vlN tp i k * 10 + (tp (i + k) - 48) by omega]
      rw [b_50_5, if_neg (by rw [le_n (by omega) (by omega)]; omega), b_50_11 (by first | exact in_n (by omega) (by omega) | (simp only [li, nI_add, pk_mul]; exact in_n (by omega) (by omega))), cl_n (by omega), hT.t (i + k) (by omega), ev, nI_1]
      exact ih (k + 1) (by omega)
  rw [b_50_0]
  exact key (z - i) 0 (by omega)
/-- where a token begins: no blank, no digit behind a digit, no letter behind a letter -/
def bg (tp : Nat → Nat) (i : Nat) : Bool := if isB (tp i) = true then false else if i = 0 then true else if isD (tp i) = true then !isD (tp (i - 1)) else if isA (tp i) = true then !isA (tp (i - 1)) else true
theorem isB_D {b : Nat} (h : isB b = true) : isD b = false := by
  unfold isB at h
  rw [Bool.or_eq_true, decide_eq_true_eq, decide_eq_true_eq] at h
  rcases h with h | h <;> rw [h] <;> rfl
theorem isB_A {b : Nat} (h : isB b = true) : isA b = false := by
  unfold isB at h
  rw [Bool.or_eq_true, decide_eq_true_eq, decide_eq_true_eq] at h
  rcases h with h | h <;> rw [h] <;> rfl
theorem D_B {b : Nat} (h : isD b = true) : ¬ isB b = true := fun z => by rw [isB_D z] at h; cases h
theorem A_B {b : Nat} (h : isA b = true) : ¬ isB b = true := fun z => by rw [isB_A z] at h; cases h
theorem A_D {b : Nat} (h : isA b = true) : ¬ isD b = true := fun z => by rw [DA_no z] at h; cases h
theorem bg_0 {tp : Nat → Nat} (h : isB (tp 0) = false) : bg tp 0 = true := by
  unfold bg
  rw [if_neg (by rw [h]; decide), if_pos rfl]
theorem bg_s {tp : Nat → Nat} {i : Nat} (h : isB (tp i) = true) (h1 : isB (tp (i + 1)) = false) : bg tp (i + 1) = true := by
  unfold bg
  rw [if_neg (by rw [h1]; decide), if_neg (by omega), Nat.add_sub_cancel, isB_D h, isB_A h]
  by_cases c : isD (tp (i + 1)) = true
  · rw [if_pos c]; rfl
  · rw [if_neg c]
    by_cases c2 : isA (tp (i + 1)) = true
    · rw [if_pos c2]; rfl
    · rw [if_neg c2]
theorem bg_in {tp : Nat → Nat} {n i k : Nat} (h1 : i < k) (h2 : k < tkE tp n i) : bg tp k = false := by
  unfold tkE at h2
  by_cases cD : isD (tp i) = true
  · rw [if_pos cD] at h2
    have hk : isD (tp k) = true := rE_all (n := n) (i := i + 1) (by omega) h2
    have hk1 : isD (tp (k - 1)) = true := by
      by_cases e : k - 1 = i
      · rw [e]; exact cD
      · exact rE_all (n := n) (i := i + 1) (by omega) (by omega)
    unfold bg
    rw [if_neg (D_B hk), if_neg (by omega), if_pos hk, hk1]
    rfl
  · rw [if_neg cD] at h2
    by_cases cA : isA (tp i) = true
    · rw [if_pos cA] at h2
      have hk : isA (tp k) = true := rE_all (n := n) (i := i + 1) (by omega) h2
      have hk1 : isA (tp (k - 1)) = true := by
        by_cases e : k - 1 = i
        · rw [e]; exact cA
        · exact rE_all (n := n) (i := i + 1) (by omega) (by omega)
      unfold bg
      rw [if_neg (A_B hk), if_neg (by omega), if_neg (A_D hk), if_pos hk, hk1]
      rfl
    · rw [if_neg cA] at h2
      omega
theorem bg_end {tp : Nat → Nat} {n i : Nat} (h1 : tkE tp n i < n) (h2 : isB (tp (tkE tp n i)) = false) : bg tp (tkE tp n i) = true := by
  have hg := tkE_gt tp n i
  have h0 : ¬ isB (tp (tkE tp n i)) = true := by rw [h2]; decide
  by_cases cD : isD (tp i) = true
  · have ee : tkE tp n i = rE isD tp n (i + 1) := by unfold tkE; rw [if_pos cD]
    have hn : ¬ isD (tp (tkE tp n i)) = true := fun z => by rw [ee] at z h1; exact rE_end _ (i + 1) rfl ⟨h1, z⟩
    have hp : isD (tp (tkE tp n i - 1)) = true := by
      by_cases e : tkE tp n i - 1 = i
      · rw [e]; exact cD
      · exact rE_all (n := n) (i := i + 1) (by omega) (by omega)
    unfold bg
    rw [if_neg h0, if_neg (by omega), if_neg hn, DA_no hp]
    by_cases c2 : isA (tp (tkE tp n i)) = true
    · rw [if_pos c2]; rfl
    · rw [if_neg c2]
  · by_cases cA : isA (tp i) = true
    · have ee : tkE tp n i = rE isA tp n (i + 1) := by unfold tkE; rw [if_neg cD, if_pos cA]
      have hn : ¬ isA (tp (tkE tp n i)) = true := fun z => by rw [ee] at z h1; exact rE_end _ (i + 1) rfl ⟨h1, z⟩
      have hp : isA (tp (tkE tp n i - 1)) = true := by
        by_cases e : tkE tp n i - 1 = i
        · rw [e]; exact cA
        · exact rE_all (n := n) (i := i + 1) (by omega) (by omega)
      have hp2 : isD (tp (tkE tp n i - 1)) = false := Bool.eq_false_iff.mpr (A_D hp)
      unfold bg
      rw [if_neg h0, if_neg (by omega), hp2, if_neg hn]
      by_cases c2 : isD (tp (tkE tp n i)) = true
      · rw [if_pos c2]; rfl
      · rw [if_neg c2]
    · have ee : tkE tp n i = i + 1 := by unfold tkE; rw [if_neg cD, if_neg cA]
      rw [ee] at h0 ⊢
      unfold bg
      rw [if_neg h0, if_neg (by omega), Nat.add_sub_cancel, Bool.eq_false_iff.mpr cD, Bool.eq_false_iff.mpr cA]
      by_cases c : isD (tp (i + 1)) = true
      · rw [if_pos c]; rfl
      · rw [if_neg c]
        by_cases c2 : isA (tp (i + 1)) = true
        · rw [if_pos c2]; rfl
        · rw [if_neg c2]
theorem x_beg {d nS n i : Nat} {tp : Nat → Nat} {M : am_M} {Q : Option Value → am_H → Prop} (hT : TC M n tp) (hi : i < n) : am_Wp (d + 1) 312 0 [.ref 187, .int (nI i)] [] (hp nS M) Q = Q (some (.int (bI (bg tp i)))) (hp nS M) := by
  have hl := hT.l
  have hb := hT.b i hi
  rw [b_312_0 (by first | exact in_n (by omega) (by omega) | (simp only [li, nI_add, pk_mul]; exact in_n (by omega) (by omega))), cl_n (by omega), hT.t i hi]
  by_cases c32 : tp i = 32
  · have e : bg tp i = false := by unfold bg; rw [if_pos (show isB (tp i) = true by unfold isB; rw [c32]; rfl)]
    rw [if_pos (by rw [c32]; rfl), b_312_22, e]
    rfl
  rw [if_neg (by rw [li, eq_n (by omega) (by omega)]; exact c32), b_312_11 (by first | exact in_n (by omega) (by omega) | (simp only [li, nI_add, pk_mul]; exact in_n (by omega) (by omega))), cl_n (by omega), hT.t i hi]
  by_cases c10 : tp i = 10
  · have e : bg tp i = false := by unfold bg; rw [if_pos (show isB (tp i) = true by unfold isB; rw [c10]; rfl)]
    rw [if_neg (fun z => z (by rw [c10]; rfl)), b_312_22, e]
    rfl
  have nB : ¬ isB (tp i) = true := by unfold isB; rw [decide_eq_false c32, decide_eq_false c10]; decide
  rw [if_pos (by rw [li, eq_n (by omega) (by omega)]; exact c10), b_312_24]
  by_cases c0 : i = 0
  · have e : bg tp i = true := by unfold bg; rw [if_neg nB, if_pos c0]
    rw [if_neg (fun z => z (by rw [c0]; rfl)), b_312_28, e]
    rfl
  rw [if_pos (nI_ne0 (by omega) (by omega)), b_312_30, x_isD hT (by omega), am_ans_some, b_312_35, decide_eq_true hi, Bool.true_and]
  cases hd : isD (tp i) with
  | true =>
    rw [if_neg (show ¬ bI true = 0 by decide), b_312_38, sub1 (by omega), x_isD hT (by omega), am_ans_some, b_312_45, decide_eq_true (show i - 1 < n by omega), Bool.true_and]
    have e : bg tp i = !isD (tp (i - 1)) := by unfold bg; rw [if_neg nB, if_neg c0, if_pos hd]
    rw [e]
    cases hq : isD (tp (i - 1)) with
    | true => rw [if_pos (show ¬ bI true = 0 by decide), b_312_52, b_312_79 rok0]; rfl
    | false => rw [if_neg (fun z => z rfl), b_312_48, b_312_79 rok1]; rfl
  | false =>
    rw [if_pos (show bI false = 0 from rfl), b_312_56, x_isA hT (by omega), am_ans_some, b_312_61, decide_eq_true hi, Bool.true_and]
    cases ha : isA (tp i) with
    | true =>
      rw [if_neg (show ¬ bI true = 0 by decide), b_312_64, sub1 (by omega), x_isA hT (by omega), am_ans_some, b_312_71, decide_eq_true (show i - 1 < n by omega), Bool.true_and]
      have e : bg tp i = !isA (tp (i - 1)) := by unfold bg; rw [if_neg nB, if_neg c0, hd, if_neg (by decide), if_pos ha]
      rw [e]
      cases hq : isA (tp (i - 1)) with
      | true => rw [if_pos (show ¬ bI true = 0 by decide), b_312_78, b_312_79 rok0]; rfl
      | false => rw [if_neg (fun z => z rfl), b_312_74, b_312_79 rok1]; rfl
    | false =>
      have e : bg tp i = true := by unfold bg; rw [if_neg nB, if_neg c0, hd, if_neg (by decide), ha, if_neg (by decide)]
      rw [if_pos (show bI false = 0 from rfl), b_312_74, b_312_79 rok1, e]
      rfl
abbrev TK (tp : Nat → Nat) (n N : Nat) (M : am_M) : Prop := (M 187 9 = nI (N + 1)) ∧ (∀ j, j ≤ N → M 199 j = nI (kK tp n j)) ∧ (∀ j, j ≤ N → kK tp n j = 36 → M 200 j = nI (kV tp n j)) ∧ (∀ j, j ≤ N → M 201 j = nI (ps tp n j)) ∧ (ps tp n N = n) ∧ (∀ j, j < N → ps tp n j < n) ∧ (N ≤ 400)
theorem TK.t {tp : Nat → Nat} {n N : Nat} {M : am_M} (zz : TK tp n N M) : M 187 9 = nI (N + 1) := zz.1
theorem TK.k {tp : Nat → Nat} {n N : Nat} {M : am_M} (zz : TK tp n N M) : ∀ j, j ≤ N → M 199 j = nI (kK tp n j) := zz.2.1
theorem TK.v {tp : Nat → Nat} {n N : Nat} {M : am_M} (zz : TK tp n N M) : ∀ j, j ≤ N → kK tp n j = 36 → M 200 j = nI (kV tp n j) := zz.2.2.1
theorem TK.p {tp : Nat → Nat} {n N : Nat} {M : am_M} (zz : TK tp n N M) : ∀ j, j ≤ N → M 201 j = nI (ps tp n j) := zz.2.2.2.1
theorem TK.e {tp : Nat → Nat} {n N : Nat} {M : am_M} (zz : TK tp n N M) : ps tp n N = n := zz.2.2.2.2.1
theorem TK.b {tp : Nat → Nat} {n N : Nat} {M : am_M} (zz : TK tp n N M) : ∀ j, j < N → ps tp n j < n := zz.2.2.2.2.2.1
theorem TK.l {tp : Nat → Nat} {n N : Nat} {M : am_M} (zz : TK tp n N M) : N ≤ 400 := zz.2.2.2.2.2.2
abbrev SP (tp : Nat → Nat) (n j i : Nat) (M0 M : am_M) : Prop := (M 187 9 = nI j) ∧ (∀ q, q < j → M 199 q = nI (kK tp n q)) ∧ (∀ q, q < j → kK tp n q = 36 → M 200 q = nI (kV tp n q)) ∧ (∀ q, q < j → M 201 q = nI (ps tp n q)) ∧ (∀ q, q < j → ps tp n q < n) ∧ (rE isB tp n i = ps tp n j) ∧ (i ≤ n) ∧ (j ≤ i) ∧ (i < n → isB (tp i) = false → bg tp i = true) ∧ (∀ a k, ¬ (a = 199 ∨ a = 200 ∨ a = 201 ∨ (a = 187 ∧ k = 9)) → M a k = M0 a k)
theorem SP.t {tp : Nat → Nat} {n j i : Nat} {M0 M : am_M} (zz : SP tp n j i M0 M) : M 187 9 = nI j := zz.1
theorem SP.k {tp : Nat → Nat} {n j i : Nat} {M0 M : am_M} (zz : SP tp n j i M0 M) : ∀ q, q < j → M 199 q = nI (kK tp n q) := zz.2.1
theorem SP.v {tp : Nat → Nat} {n j i : Nat} {M0 M : am_M} (zz : SP tp n j i M0 M) : ∀ q, q < j → kK tp n q = 36 → M 200 q = nI (kV tp n q) := zz.2.2.1
theorem SP.p {tp : Nat → Nat} {n j i : Nat} {M0 M : am_M} (zz : SP tp n j i M0 M) : ∀ q, q < j → M 201 q = nI (ps tp n q) := zz.2.2.2.1
theorem SP.b {tp : Nat → Nat} {n j i : Nat} {M0 M : am_M} (zz : SP tp n j i M0 M) : ∀ q, q < j → ps tp n q < n := zz.2.2.2.2.1
theorem SP.i {tp : Nat → Nat} {n j i : Nat} {M0 M : am_M} (zz : SP tp n j i M0 M) : rE isB tp n i = ps tp n j := zz.2.2.2.2.2.1
theorem SP.l {tp : Nat → Nat} {n j i : Nat} {M0 M : am_M} (zz : SP tp n j i M0 M) : i ≤ n := zz.2.2.2.2.2.2.1
theorem SP.ji {tp : Nat → Nat} {n j i : Nat} {M0 M : am_M} (zz : SP tp n j i M0 M) : j ≤ i := zz.2.2.2.2.2.2.2.1
theorem SP.w {tp : Nat → Nat} {n j i : Nat} {M0 M : am_M} (zz : SP tp n j i M0 M) : i < n → isB (tp i) = false → bg tp i = true := zz.2.2.2.2.2.2.2.2.1
theorem SP.f {tp : Nat → Nat} {n j i : Nat} {M0 M : am_M} (zz : SP tp n j i M0 M) : ∀ a k, ¬ (a = 199 ∨ a = 200 ∨ a = 201 ∨ (a = 187 ∧ k = 9)) → M a k = M0 a k := zz.2.2.2.2.2.2.2.2.2
theorem TC_f {M0 M : am_M} {n : Nat} {tp : Nat → Nat} (h : TC M0 n tp) (f : ∀ a k, ¬ (a = 199 ∨ a = 200 ∨ a = 201 ∨ (a = 187 ∧ k = 9)) → M a k = M0 a k) : TC M n tp := ⟨by rw [f _ _ (by omega)]; exact h.n, fun k hk => by rw [f _ _ (by omega)]; exact h.t k hk, h.l, h.b⟩
theorem RO_f {M0 M : am_M} (h : RO M0) (f : ∀ a k, a < 16 → M a k = M0 a k) : RO M := ⟨by rw [f _ _ (by omega)]; exact h.a, fun k hk => by rw [f _ _ (by omega)]; exact h.b k hk, by rw [f _ _ (by omega)]; exact h.c, fun k hk => by rw [f _ _ (by omega)]; exact h.d k hk⟩
theorem x_splits {d nS n : Nat} {tp : Nat → Nat} {M : am_M} {Q : Option Value → am_H → Prop} (hT : TC M n tp) (hR : RO M) (hQ : ∀ M' N, TK tp n N M' → (∀ a k, ¬ (a = 199 ∨ a = 200 ∨ a = 201 ∨ (a = 187 ∧ k = 9)) → M' a k = M a k) → Q none (hp nS M')) : am_Wp (d + 8) 43 0 [.ref 187, .retAddr 0, .retAddr 0] [] (hp nS M) Q := by
  have hl := hT.l
  have keep : ∀ (j i K : Nat) (v : Int32) (N : am_M) {Q' : Option Value → am_H → Prop}, j ≤ 400 → N 187 9 = nI j → am_Wp (d + 7) 49 0 [.ref 187, .int (nI K), .int (nI i), .int v] [] (hp nS N) Q' = Q' none (hp nS (am_up (am_up (am_up (am_up N 199 j (nI K)) 201 j (nI i)) 200 j v) 187 9 (nI (j + 1)))) := by
    intro j i K v N Q' hj hN
    have u1 : am_up N 199 j (nI K) 187 9 = nI j := by rw [up_ne _ _ _ (by decide)]; exact hN
    have u2 : am_up (am_up N 199 j (nI K)) 201 j (nI i) 187 9 = nI j := by rw [up_ne _ _ _ (by decide)]; exact u1
    have u3 : am_up (am_up (am_up N 199 j (nI K)) 201 j (nI i)) 200 j v 187 9 = nI j := by rw [up_ne _ _ _ (by decide)]; exact u2
    rw [c_49 (fun _ => by rw [hN]; exact in_n (by omega) (by omega)) (fun _ => by rw [hN, cl_n (by omega), u1]; exact in_n (by omega) (by omega)) (fun _ => by rw [hN, cl_n (by omega), u1, cl_n (by omega), u2]; exact in_n (by omega) (by omega)), hN, if_neg (by rw [li, lt_n (by omega) (by omega)]; omega), cl_n (by omega), u1, cl_n (by omega), u2, cl_n (by omega), u3, nI_1]
  have key : ∀ m i j z N, n - i ≤ m → SP tp n j i M N → am_Wp (d + 8) 43 7 [.ref 187, .int (nI i), z] [] (hp nS N) Q := by
    intro m
    induction m with
    | zero =>
      intro i j z N hm h
      have hil := h.l
      have hin : i = n := by omega
      have hji := h.ji
      have hT' := TC_f hT h.f
      have e1 : rE isB tp n i = i := rE_f (by omega)
      have hpj := h.i
      rw [e1] at hpj
      rw [b_43_7, hT'.n, if_pos (by rw [le_n (by omega) (by omega)]; omega), b_43_64, hT'.n]
      refine (keep j n 37 0 N (by omega) h.t).mpr ?_
      rw [am_ans_none, b_43_75]
      refine hQ _ j ⟨by rw [up_same, upd_same], fun q hq => ?_, fun q hq hk => ?_, fun q hq => ?_, by omega, h.b, by omega⟩ (fun a k ha => by rw [up_pt _ _ (by omega), up_pt _ _ (by omega), up_pt _ _ (by omega), up_pt _ _ (by omega)]; exact h.f a k ha)
      · rw [up_ne _ _ _ (by decide), up_ne _ _ _ (by decide), up_ne _ _ _ (by decide), up_same, upd_at]
        by_cases e : q = j
        · rw [if_pos e, e, kK_37.mpr (by omega)]
        · rw [if_neg e]; exact h.k q (by omega)
      · rw [up_ne _ _ _ (by decide), up_same, upd_at]
        by_cases e : q = j
        · rw [e, kK_37.mpr (by omega)] at hk; omega
        · rw [if_neg e, up_ne _ _ _ (by decide), up_ne _ _ _ (by decide)]; exact h.v q (by omega) hk
      · rw [up_ne _ _ _ (by decide), up_ne _ _ _ (by decide), up_same, upd_at]
        by_cases e : q = j
        · rw [if_pos e, e, ← hpj, hin]
        · rw [if_neg e, up_ne _ _ _ (by decide)]; exact h.p q (by omega)
    | succ m ih =>
      intro i j z N hm h
      by_cases hin : n ≤ i
      · exact ih i j z N (by omega) h
      · have hji := h.ji
        have hT' := TC_f hT h.f
        have hR' : RO N := RO_f hR (fun a k ha => h.f a k (by omega))
        rw [b_43_7, hT'.n, if_neg (by rw [le_n (by omega) (by omega)]; omega), b_43_15, x_beg hT' (by omega), am_ans_some, b_43_20]
        cases hB : isB (tp i) with
        | true =>
          have e : bg tp i = false := by unfold bg; rw [if_pos hB]
          rw [e, if_pos (show bI false = 0 from rfl), b_43_58, nI_1]
          refine ih (i + 1) j z N (by omega) ⟨h.t, h.k, h.v, h.p, h.b, ?_, by omega, by omega, fun _ h2 => bg_s hB h2, h.f⟩
          rw [← rE_t (by omega) hB]; exact h.i
        | false =>
          have hpj := h.i
          rw [rE_f (fun z => by rw [hB] at z; cases z.2)] at hpj
          have hE := tkE_gt tp n i
          have hE2 := tkE_le tp (show i < n by omega)
          have hKj : kK tp n j = tkK tp n i := by unfold kK; rw [← hpj, if_pos (by omega)]
          have hi2 : rE isB tp n (tkE tp n i) = ps tp n (j + 1) := by rw [ps, ← hpj, if_pos (by omega)]
          have hb2 : ∀ q, q < j + 1 → ps tp n q < n := fun q hq => by
            by_cases e : q = j
            · rw [e, ← hpj]; omega
            · exact h.b q (by omega)
          rw [h.w (by omega) hB, if_neg (show ¬ bI true = 0 by decide), b_43_23, x_beh hT' (by omega), am_ans_some, b_43_28]
          refine x_kind hT' hR' (by omega) ?_
          rw [am_ans_some, b_43_36, x_isD hT' (by omega), am_ans_some, b_43_42, decide_eq_true (show i < n by omega), Bool.true_and]
          have fin : ∀ v : Int32, (kK tp n j = 36 → v = nI (kV tp n j)) → am_Wp (d + 8) 43 55 [.ref 187, .int (nI i), .int (nI (tkE tp n i))] [.int v, .int (nI i), .int (nI (tkK tp n i)), .ref 187] (hp nS N) Q := by
            intro v hv
            rw [b_43_55]
            refine (keep j i (tkK tp n i) v N (by omega) h.t).mpr ?_
            rw [am_ans_none, b_43_58, nI_1]
            have f2 : ∀ a k, ¬ (a = 199 ∨ a = 200 ∨ a = 201 ∨ (a = 187 ∧ k = 9)) → am_up (am_up (am_up (am_up N 199 j (nI (tkK tp n i))) 201 j (nI i)) 200 j v) 187 9 (nI (j + 1)) a k = M a k := fun a k ha => by rw [up_pt _ _ (by omega), up_pt _ _ (by omega), up_pt _ _ (by omega), up_pt _ _ (by omega)]; exact h.f a k ha
            have g9 : am_up (am_up (am_up (am_up N 199 j (nI (tkK tp n i))) 201 j (nI i)) 200 j v) 187 9 (nI (j + 1)) 187 9 = nI (j + 1) := by rw [up_same, upd_same]
            have gk : ∀ q, q < j + 1 → am_up (am_up (am_up (am_up N 199 j (nI (tkK tp n i))) 201 j (nI i)) 200 j v) 187 9 (nI (j + 1)) 199 q = nI (kK tp n q) := fun q hq => by
              rw [up_ne _ _ _ (by decide), up_ne _ _ _ (by decide), up_ne _ _ _ (by decide), up_same, upd_at]
              by_cases e : q = j
              · rw [if_pos e, e, hKj]
              · rw [if_neg e]; exact h.k q (by omega)
            have gp : ∀ q, q < j + 1 → am_up (am_up (am_up (am_up N 199 j (nI (tkK tp n i))) 201 j (nI i)) 200 j v) 187 9 (nI (j + 1)) 201 q = nI (ps tp n q) := fun q hq => by
              rw [up_ne _ _ _ (by decide), up_ne _ _ _ (by decide), up_same, upd_at]
              by_cases e : q = j
              · rw [if_pos e, e, ← hpj]
              · rw [if_neg e, up_ne _ _ _ (by decide)]; exact h.p q (by omega)
            have gv : ∀ q, q < j + 1 → kK tp n q = 36 → am_up (am_up (am_up (am_up N 199 j (nI (tkK tp n i))) 201 j (nI i)) 200 j v) 187 9 (nI (j + 1)) 200 q = nI (kV tp n q) := fun q hq hk => by
              rw [up_ne _ _ _ (by decide), up_same, upd_at]
              by_cases e : q = j
              · rw [if_pos e, e]; rw [e] at hk; exact hv hk
              · rw [if_neg e, up_ne _ _ _ (by decide), up_ne _ _ _ (by decide)]; exact h.v q (by omega) hk
            generalize am_up (am_up (am_up (am_up N 199 j (nI (tkK tp n i))) 201 j (nI i)) 200 j v) 187 9 (nI (j + 1)) = N2 at f2 g9 gk gp gv ⊢
            have hT2 := TC_f hT f2
            have inside : ∀ m' p, p + m' = tkE tp n i → i < p → am_Wp (d + 8) 43 7 [.ref 187, .int (nI p), .int (nI (tkE tp n i))] [] (hp nS N2) Q := by
              intro m'
              induction m' with
              | zero =>
                intro p hp1 hp2
                have : p = tkE tp n i := by omega
                subst this
                exact ih _ (j + 1) _ N2 (by omega) ⟨g9, gk, gv, gp, hb2, hi2, hE2, by omega, fun h1 h2 => bg_end h1 h2, f2⟩
              | succ m' ih' =>
                intro p hp1 hp2
                rw [b_43_7, hT2.n, if_neg (by rw [le_n (by omega) (by omega)]; omega), b_43_15, x_beg hT2 (by omega), am_ans_some, b_43_20, bg_in (n := n) hp2 (by omega), if_pos (show bI false = 0 from rfl), b_43_58, nI_1]
                exact ih' (p + 1) (by omega) (by omega)
            exact inside (tkE tp n i - (i + 1)) (i + 1) (by omega) (by omega)
          cases hd : isD (tp i) with
          | true =>
            have ee : tkE tp n i = rE isD tp n (i + 1) := by unfold tkE; rw [hd, if_pos rfl]
            have hall : ∀ k, i ≤ k → k < tkE tp n i → isD (tp k) = true := fun k h1 h2 => by
              by_cases e : k = i
              · rw [e]; exact hd
              · exact rE_all (n := n) (i := i + 1) (by omega) (by omega)
            rw [if_neg (show ¬ bI true = 0 by decide), b_43_45, x_val hT' (by omega) hE2 hall, am_ans_some, b_43_51]
            refine fin _ (fun _ => ?_)
            unfold kV tkV
            rw [← hpj]
          | false =>
            rw [if_pos (show bI false = 0 from rfl), b_43_54]
            refine fin 0 (fun hk => ?_)
            exfalso
            rw [hKj] at hk
            unfold tkK at hk
            rw [hd, if_neg (by decide)] at hk
            by_cases ha : isA (tp i) = true
            · rw [if_pos ha] at hk
              by_cases h3 : kwI tp i (tkE tp n i) < 26
              · rw [if_pos h3] at hk; omega
              · rw [if_neg h3] at hk; omega
            · rw [if_neg ha] at hk
              by_cases h3 : sgI (tp i) < 10
              · rw [if_pos h3] at hk; omega
              · rw [if_neg h3] at hk; omega
  rw [b_43_0]
  exact key n 0 0 _ _ (by omega) ⟨by rw [up_same, upd_same]; rfl, fun q hq => by omega, fun q hq _ => by omega, fun q hq => by omega, fun q hq => by omega, rfl, by omega, Nat.le_refl _, fun _ h2 => bg_0 h2, fun a k ha => up_pt _ _ (by omega)⟩
end
