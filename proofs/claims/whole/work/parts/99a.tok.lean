section
/-! THE TOKENS OF A TAPE -/
def isD (b : Nat) : Bool := decide (48 ≤ b) && decide (b ≤ 57)
def isA (b : Nat) : Bool := (decide (97 ≤ b) && decide (b ≤ 122)) || (decide (65 ≤ b) && decide (b ≤ 90))
def isB (b : Nat) : Bool := decide (b = 32) || decide (b = 10)
def rnE (p : Nat → Bool) (tp : Nat → Nat) (n : Nat) : Nat → Nat → Nat
  | 0, i => i
  | m + 1, i => if i < n ∧ p (tp i) = true then rnE p tp n m (i + 1) else i
/-- how far a run goes -/
def rE (p : Nat → Bool) (tp : Nat → Nat) (n i : Nat) : Nat := rnE p tp n (n - i) i
theorem rE_t {p : Nat → Bool} {tp : Nat → Nat} {n i : Nat} (h : i < n) (hp : p (tp i) = true) : rE p tp n i = rE p tp n (i + 1) := by
  unfold rE
  rw [show n - i = (n - (i + 1)) + 1 by omega, rnE, if_pos ⟨h, hp⟩]
theorem rE_f {p : Nat → Bool} {tp : Nat → Nat} {n i : Nat} (h : ¬ (i < n ∧ p (tp i) = true)) : rE p tp n i = i := by
  unfold rE
  cases n - i with
  | zero => rfl
  | succ m => rw [rnE, if_neg h]
theorem rnE_ge (p : Nat → Bool) (tp : Nat → Nat) (n : Nat) : ∀ m i, i ≤ rnE p tp n m i
  | 0, i => Nat.le_refl _
  | m + 1, i => by
    rw [rnE]
    by_cases h : i < n ∧ p (tp i) = true
    · rw [if_pos h]; have := rnE_ge p tp n m (i + 1); omega
    · rw [if_neg h]; exact Nat.le_refl _
theorem rE_ge (p : Nat → Bool) (tp : Nat → Nat) (n i : Nat) : i ≤ rE p tp n i := rnE_ge p tp n _ i
theorem rnE_le (p : Nat → Bool) (tp : Nat → Nat) (n : Nat) : ∀ m i, i ≤ n → rnE p tp n m i ≤ n
  | 0, i, h => h
  | m + 1, i, h => by
    rw [rnE]
    by_cases c : i < n ∧ p (tp i) = true
    · rw [if_pos c]; exact rnE_le p tp n m (i + 1) (by omega)
    · rw [if_neg c]; exact h
theorem rE_le (p : Nat → Bool) (tp : Nat → Nat) {n i : Nat} (h : i ≤ n) : rE p tp n i ≤ n := rnE_le p tp n _ i h
theorem rnE_all (p : Nat → Bool) (tp : Nat → Nat) (n : Nat) : ∀ m i k, i ≤ k → k < rnE p tp n m i → p (tp k) = true
  | 0, i, k, h1, h2 => by have h2 : k < i := h2; omega
  | m + 1, i, k, h1, h2 => by
    rw [rnE] at h2
    by_cases c : i < n ∧ p (tp i) = true
    · rw [if_pos c] at h2
      by_cases e : k = i
      · rw [e]; exact c.2
      · exact rnE_all p tp n m (i + 1) k (by omega) h2
    · rw [if_neg c] at h2; omega
theorem rE_all {p : Nat → Bool} {tp : Nat → Nat} {n i k : Nat} (h1 : i ≤ k) (h2 : k < rE p tp n i) : p (tp k) = true := rnE_all p tp n _ i k h1 h2
theorem rE_end {p : Nat → Bool} {tp : Nat → Nat} {n : Nat} : ∀ m i, n - i = m → ¬ (rE p tp n i < n ∧ p (tp (rE p tp n i)) = true) := by
  intro m
  induction m with
  | zero =>
    intro i hi
    rw [rE_f (by omega)]; omega
  | succ m ih =>
    intro i hi
    by_cases c : i < n ∧ p (tp i) = true
    · rw [rE_t c.1 c.2]; exact ih (i + 1) (by omega)
    · rw [rE_f c]; exact c
/-- the words -/
def wds : List (List Nat) := [[114, 105, 115, 101, 115], [102, 97, 108, 108, 115], [97, 115, 107, 115], [119, 104, 101, 110], [111, 114], [97, 110, 100], [110, 111, 116], [118, 111, 105, 99, 101], [104, 101, 105, 103, 104, 116], [116, 111, 112], [115, 99, 97, 114, 101, 100], [119, 105, 110, 100], [109, 105, 110, 117, 116, 101], [98, 97, 115, 101], [108, 111, 115, 116], [100, 97, 121], [111, 110], [98, 111, 121], [99, 97, 108, 109], [115, 101, 101, 107], [116, 114, 97, 100, 101, 114], [98, 117, 121], [115, 101, 108, 108], [111, 102], [103, 111, 111, 100], [98, 121]]
def wL (w : Nat) : Nat := (wds.getD w []).length
def wC (w i : Nat) : Nat := (wds.getD w []).getD i 32
def mtW (tp : Nat → Nat) (a z w : Nat) : Prop := wL w = z - a ∧ ∀ i, i < z - a → tp (a + i) = wC w i
noncomputable def fdW (p : Nat → Prop) : Nat → Nat → Nat
  | 0, i => i
  | m + 1, i => @ite Nat (p i) (Classical.propDecidable (p i)) i (fdW p m (i + 1))
theorem fdW_t {p : Nat → Prop} {m i : Nat} (h : p i) : fdW p (m + 1) i = i := by rw [fdW, if_pos h]
theorem fdW_f {p : Nat → Prop} {m i : Nat} (h : ¬ p i) : fdW p (m + 1) i = fdW p m (i + 1) := by rw [fdW, if_neg h]
theorem fdW_le (p : Nat → Prop) : ∀ m i, fdW p m i ≤ i + m
  | 0, i => Nat.le_refl _
  | m + 1, i => by
    by_cases h : p i
    · rw [fdW_t h]; omega
    · rw [fdW_f h]; have := fdW_le p m (i + 1); omega
noncomputable def kwI (tp : Nat → Nat) (a z : Nat) : Nat := fdW (mtW tp a z) 26 0
def sgB (j : Nat) : Nat := [59, 43, 45, 42, 47, 40, 41, 60, 61, 62].getD j 0
noncomputable def sgI (b : Nat) : Nat := fdW (fun j => sgB j = b) 10 0
def tkE (tp : Nat → Nat) (n i : Nat) : Nat := if isD (tp i) = true then rE isD tp n (i + 1) else if isA (tp i) = true then rE isA tp n (i + 1) else i + 1
noncomputable def tkK (tp : Nat → Nat) (n i : Nat) : Nat := if isD (tp i) = true then (if tkE tp n i - i ≤ 4 then 36 else 38) else if isA (tp i) = true then (if kwI tp i (tkE tp n i) < 26 then kwI tp i (tkE tp n i) else 38) else (if sgI (tp i) < 10 then 26 + sgI (tp i) else 38)
def vlN (tp : Nat → Nat) (a : Nat) : Nat → Nat
  | 0 => 0
  | m + 1 => vlN tp a m * 10 + (tp (a + m) - 48)
def tkV (tp : Nat → Nat) (n i : Nat) : Nat := vlN tp i (tkE tp n i - i)
def ps (tp : Nat → Nat) (n : Nat) : Nat → Nat
  | 0 => rE isB tp n 0
  | j + 1 => if ps tp n j < n then rE isB tp n (tkE tp n (ps tp n j)) else ps tp n j
noncomputable def kK (tp : Nat → Nat) (n j : Nat) : Nat := if ps tp n j < n then tkK tp n (ps tp n j) else 37
def kV (tp : Nat → Nat) (n j : Nat) : Nat := tkV tp n (ps tp n j)
theorem tkE_gt (tp : Nat → Nat) (n i : Nat) : i < tkE tp n i := by
  unfold tkE
  by_cases h : isD (tp i) = true
  · rw [if_pos h]; have := rE_ge isD tp n (i + 1); omega
  · rw [if_neg h]
    by_cases h2 : isA (tp i) = true
    · rw [if_pos h2]; have := rE_ge isA tp n (i + 1); omega
    · rw [if_neg h2]; omega
theorem tkE_le (tp : Nat → Nat) {n i : Nat} (h : i < n) : tkE tp n i ≤ n := by
  unfold tkE
  by_cases h1 : isD (tp i) = true
  · rw [if_pos h1]; exact rE_le isD tp (by omega)
  · rw [if_neg h1]
    by_cases h2 : isA (tp i) = true
    · rw [if_pos h2]; exact rE_le isA tp (by omega)
    · rw [if_neg h2]; omega
theorem ps_le (tp : Nat → Nat) (n : Nat) : ∀ j, ps tp n j ≤ n
  | 0 => rE_le isB tp (Nat.zero_le _)
  | j + 1 => by
    rw [ps]
    by_cases h : ps tp n j < n
    · rw [if_pos h]; exact rE_le isB tp (tkE_le tp h)
    · rw [if_neg h]; exact ps_le tp n j
theorem tkK_38 (tp : Nat → Nat) (n i : Nat) : tkK tp n i ≤ 38 ∧ tkK tp n i ≠ 37 := by
  unfold tkK
  by_cases h1 : isD (tp i) = true
  · rw [if_pos h1]
    by_cases h : tkE tp n i - i ≤ 4
    · rw [if_pos h]; omega
    · rw [if_neg h]; omega
  · rw [if_neg h1]
    by_cases h2 : isA (tp i) = true
    · rw [if_pos h2]
      by_cases h : kwI tp i (tkE tp n i) < 26
      · rw [if_pos h]; omega
      · rw [if_neg h]; omega
    · rw [if_neg h2]
      by_cases h : sgI (tp i) < 10
      · rw [if_pos h]; omega
      · rw [if_neg h]; omega
theorem kK_38 (tp : Nat → Nat) (n j : Nat) : kK tp n j ≤ 38 := by
  unfold kK
  by_cases h : ps tp n j < n
  · rw [if_pos h]; exact (tkK_38 tp n _).1
  · rw [if_neg h]; omega
theorem kK_37 {tp : Nat → Nat} {n j : Nat} : kK tp n j = 37 ↔ ps tp n j = n := by
  have hl := ps_le tp n j
  unfold kK
  by_cases h : ps tp n j < n
  · rw [if_pos h]
    exact ⟨fun z => absurd z (tkK_38 tp n _).2, fun z => by omega⟩
  · rw [if_neg h]
    exact ⟨fun _ => by omega, fun _ => rfl⟩
theorem vlN_le (tp : Nat → Nat) (a : Nat) : ∀ m, m ≤ 4 → (∀ k, k < m → tp (a + k) ≤ 57) → vlN tp a m + 1 ≤ 10 ^ m
  | 0, _, _ => Nat.le_refl _
  | m + 1, h, hk => by
    have ih := vlN_le tp a m (by omega) (fun k hk' => hk k (by omega))
    have h9 := hk m (by omega)
    rw [vlN, Nat.pow_succ]
    omega
theorem kV_le {tp : Nat → Nat} {n j : Nat} (h : kK tp n j = 36) : kV tp n j ≤ 9999 := by
  unfold kK at h
  have hp : ps tp n j < n := by
    rcases Nat.lt_or_ge (ps tp n j) n with z | z
    · exact z
    · rw [if_neg (by omega)] at h; omega
  rw [if_pos hp] at h
  unfold kV tkV
  generalize ps tp n j = i at *
  unfold tkK at h
  by_cases h1 : isD (tp i) = true
  · rw [if_pos h1] at h
    by_cases h4 : tkE tp n i - i ≤ 4
    · have hall : ∀ k, k < tkE tp n i - i → tp (i + k) ≤ 57 := by
        intro k hk
        have hd : isD (tp (i + k)) = true := by
          by_cases e : k = 0
          · rw [e]; exact h1
          · have he : tkE tp n i = rE isD tp n (i + 1) := by unfold tkE; rw [if_pos h1]
            exact rE_all (n := n) (i := i + 1) (by omega) (by omega)
        unfold isD at hd
        simp only [Bool.and_eq_true, decide_eq_true_eq] at hd
        exact hd.2
      have := vlN_le tp i (tkE tp n i - i) h4 hall
      have hp : 10 ^ (tkE tp n i - i) ≤ 10 ^ 4 := Nat.pow_le_pow_right (by omega) h4
      omega
    · rw [if_neg h4] at h; omega
  · rw [if_neg h1] at h
    by_cases h2 : isA (tp i) = true
    · rw [if_pos h2] at h
      by_cases h3 : kwI tp i (tkE tp n i) < 26
      · rw [if_pos h3] at h; omega
      · rw [if_neg h3] at h; omega
    · rw [if_neg h2] at h
      by_cases h3 : sgI (tp i) < 10
      · rw [if_pos h3] at h; omega
      · rw [if_neg h3] at h; omega
/-! of the two texts that stand ready -/
theorem fin_kw : (List.range 26).all (fun w => (List.range 7).all (fun i => decide (am_kw.getD (7 * w + i) 0 = nI (wC w i)) && decide ((((am_kw.getD (7 * w + i) 0) &&& 255).toUInt32 % 65536).toInt32 = nI (wC w i)) && am_rok .char (nI (wC w i)))) = true := by decide +kernel
theorem fin_wl : (List.range 26).all (fun w => decide (wL w ≤ 6) && decide (1 ≤ wL w) && (List.range 7).all (fun i => decide ((wC w i = 32) = (wL w ≤ i)))) = true := by decide +kernel
theorem fin_sg : (List.range 256).all (fun b => decide (((nI b).toUInt32 % 65536).toInt32 = nI b) && (List.range 10).all (fun j => decide ((am_sg.getD j 0 = (nI b).toInt8.toInt32) = (sgB j = b)))) = true := by decide +kernel
theorem kw_at {w i : Nat} (hw : w < 26) (hi : i < 7) : am_kw.getD (7 * w + i) 0 = nI (wC w i) ∧ (((am_kw.getD (7 * w + i) 0) &&& 255).toUInt32 % 65536).toInt32 = nI (wC w i) ∧ am_rok .char (nI (wC w i)) = true := by
  have h := List.all_eq_true.mp (List.all_eq_true.mp fin_kw w (List.mem_range.mpr hw)) i (List.mem_range.mpr hi)
  simp only [Bool.and_eq_true, decide_eq_true_eq] at h
  exact ⟨h.1.1, h.1.2, h.2⟩
theorem wl_at {w : Nat} (hw : w < 26) : wL w ≤ 6 ∧ 1 ≤ wL w ∧ ∀ i, i < 7 → ((wC w i = 32) = (wL w ≤ i)) := by
  have h := List.all_eq_true.mp fin_wl w (List.mem_range.mpr hw)
  simp only [Bool.and_eq_true, decide_eq_true_eq] at h
  exact ⟨h.1.1, h.1.2, fun i hi => by have := List.all_eq_true.mp h.2 i (List.mem_range.mpr hi); exact of_decide_eq_true this⟩
theorem sg_at {b : Nat} (hb : b < 256) : ((nI b).toUInt32 % 65536).toInt32 = nI b ∧ ∀ j, j < 10 → ((am_sg.getD j 0 = (nI b).toInt8.toInt32) = (sgB j = b)) := by
  have h := List.all_eq_true.mp fin_sg b (List.mem_range.mpr hb)
  simp only [Bool.and_eq_true, decide_eq_true_eq] at h
  exact ⟨h.1, fun j hj => by have := List.all_eq_true.mp h.2 j (List.mem_range.mpr hj); exact of_decide_eq_true this⟩
/-- what stands ready -/
abbrev RO (M : am_M) : Prop := (M 4 0 = 0) ∧ (∀ k, k < 10 → M 5 k = am_sg.getD k 0) ∧ (M 6 0 = 0) ∧ (∀ k, k < 182 → M 7 k = am_kw.getD k 0)
theorem RO.a {M : am_M} (zz : RO M) : M 4 0 = 0 := zz.1
theorem RO.b {M : am_M} (zz : RO M) : ∀ k, k < 10 → M 5 k = am_sg.getD k 0 := zz.2.1
theorem RO.c {M : am_M} (zz : RO M) : M 6 0 = 0 := zz.2.2.1
theorem RO.d {M : am_M} (zz : RO M) : ∀ k, k < 182 → M 7 k = am_kw.getD k 0 := zz.2.2.2
/-- a tape of the program -/
abbrev TC (M : am_M) (n : Nat) (tp : Nat → Nat) : Prop := (M 187 0 = nI n) ∧ (∀ k, k < n → M 198 k = nI (tp k)) ∧ (n ≤ 400) ∧ (∀ k, k < n → tp k < 256)
theorem TC.n {M : am_M} {n : Nat} {tp : Nat → Nat} (zz : TC M n tp) : M 187 0 = nI n := zz.1
theorem TC.t {M : am_M} {n : Nat} {tp : Nat → Nat} (zz : TC M n tp) : ∀ k, k < n → M 198 k = nI (tp k) := zz.2.1
theorem TC.l {M : am_M} {n : Nat} {tp : Nat → Nat} (zz : TC M n tp) : n ≤ 400 := zz.2.2.1
theorem TC.b {M : am_M} {n : Nat} {tp : Nat → Nat} (zz : TC M n tp) : ∀ k, k < n → tp k < 256 := zz.2.2.2
theorem x_charAt {d nS w i : Nat} {M : am_M} {Q : Option Value → am_H → Prop} (hR : RO M) (hw : w < 26) (hi : i < 7) : am_Wp (d + 5) 308 0 [.ref 6, .int (nI (7 * w + i))] [] (hp nS M) Q = Q (some (.int (nI (wC w i)))) (hp nS M) := by
  obtain ⟨h1, h2, h3⟩ := kw_at hw hi
  have e7 : M 7 (7 * w + i) = am_kw.getD (7 * w + i) 0 := hR.d _ (by omega)
  rw [b_308_0, b_302i1_0, if_neg (by decide), b_302i1_6, if_neg (fun z => z hR.c), b_302i1_13, b_302i1_18 rok1, am_ans_some, b_308_4, if_neg (by decide), b_308_7, b_309_0, b_310_0, b_311_0, if_neg (by rw [li, lt_n (by omega) (by omega)]; omega), b_311_4, if_pos (by rw [li, lt_n (by omega) (by omega)]; omega), b_311_16, am_ans_some, b_310_8, am_ans_none, b_309_6 (by first | exact in_n (by omega) (by omega) | (simp only [li, nI_add, pk_mul]; exact in_n (by omega) (by omega))) (by rw [cl_n (by omega), e7, h2]; exact h3), cl_n (by omega), e7, h2, am_ans_some, b_308_15 h3]
theorem x_indexOf {d nS b : Nat} {M : am_M} {Q : Option Value → am_H → Prop} (hR : RO M) (hb : b < 256) : am_Wp (d + 6) 300 0 [.ref 4, .int (((nI b).toUInt32 % 65536).toInt32)] [] (hp nS M) Q = Q (some (.int (if sgI b < 10 then nI (sgI b) else -1))) (hp nS M) := by
  obtain ⟨h1, h2⟩ := sg_at hb
  have key : ∀ (Q : Option Value → am_H → Prop) m j, j + m = 10 → am_Wp (d + 3) 307 7 [.ref 5, .int (nI b), .int 0, .int 10, .int (nI b).toInt8.toInt32, .int (nI j)] [] (hp nS M) Q = Q (some (.int (if fdW (fun j => sgB j = b) m j < 10 then nI (fdW (fun j => sgB j = b) m j) else -1))) (hp nS M) := by
    intro Q m
    induction m with
    | zero =>
      intro j hj
      have : j = 10 := by omega
      subst this
      rw [b_307_7, if_pos (by decide), b_307_31, fdW, if_neg (by omega)]
    | succ m ih =>
      intro j hj
      rw [b_307_7, if_neg (by rw [li, le_n (by omega) (by omega)]; omega), b_307_13 (by first | exact in_n (by omega) (by omega) | (simp only [li, nI_add, pk_mul]; exact in_n (by omega) (by omega))), cl_n (by omega), hR.b j (by omega)]
      by_cases c : sgB j = b
      · have c' : am_sg.getD j 0 = (nI b).toInt8.toInt32 := by rw [h2 j (by omega)]; exact c
        rw [if_neg (fun z => z c'), b_307_22, fdW_t (p := fun j => sgB j = b) c, if_pos (by omega)]
      · have c' : ¬ am_sg.getD j 0 = (nI b).toInt8.toInt32 := by rw [h2 j (by omega)]; exact c
        rw [if_pos c', b_307_25, nI_1, ih (j + 1) (by omega), fdW_f (p := fun j => sgB j = b) c]
  have key' := fun Q => key Q 10 0 (by omega)
  rw [h1, b_300_0, b_301_0, c_302, am_ans_some, b_301_4, ite0_t ⟨by decide, fun z => z hR.a⟩, b_301_7, b_303_0, b_304_0, if_neg (by decide), b_304_6, b_304_14 (by rw [hR.a]; decide), hR.a, am_ans_some, b_303_9, am_ans_some, b_301_17, b_305_0, c_306, am_ans_some, b_305_4, ite1_t ⟨by rw [li, lt_n (by omega) (by omega)]; omega, by rw [li, lt_n (by omega) (by omega)]; omega⟩, b_305_9, c_297, am_ans_some, if_neg (by decide), b_305_14, c_296, am_ans_some, b_305_21, show (if (10 : Int32) < (10 : Int32) >>> ((0 : Int32) &&& 31) then (10 : Int32) else (10 : Int32) >>> ((0 : Int32) &&& 31)) = 10 from by decide, if_pos (by decide), b_305_29, b_307_0]
  refine (key' _).trans ?_
  rw [am_ans_some, b_305_36, am_ans_some, b_301_20, b_301_36, am_ans_some, b_300_6]
  rfl
end
