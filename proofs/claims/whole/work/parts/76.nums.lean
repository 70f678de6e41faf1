section
/-! HOW LONG IN WORDS, WHICH IS THE LONGEST -/
def ltr (k : Nat) : Int32 := (f_83 5 0 (nI k)).getD 0
theorem ltr_2 {k : Nat} (hk : k < 1000) : f_83 5 0 (nI k) = some (ltr k) ∧ f_277 5 0 (nI k) = some (ltr k) := by
  have h := List.all_eq_true.mp fin_letters k (List.mem_range.mpr hk)
  obtain ⟨x, h1, h2⟩ := am_both_s h
  have : ltr k = x := by unfold ltr; rw [h1]; rfl
  rw [this]
  exact ⟨h1, h2⟩
theorem ltr_0 : ¬ ltr 0 ≤ 0 := by decide +kernel
def bW : Nat → Nat
  | 0 => 0
  | v + 1 => if ltr (v + 1) ≤ ltr (bW v) then bW v else v + 1
theorem bW_le : ∀ v, bW v ≤ v
  | 0 => Nat.le_refl _
  | v + 1 => by
    rw [bW]
    by_cases h : ltr (v + 1) ≤ ltr (bW v)
    · rw [if_pos h]; exact Nat.le_trans (bW_le v) (by omega)
    · rw [if_neg h]; exact Nat.le_refl _
def T2 (M : am_M) : Prop := ∀ {k : Nat}, k < 20 → M 2 k = tb2 k
def T3 (M : am_M) : Prop := ∀ {k : Nat}, k < 10 → M 3 k = tb3 k
def T1 (M : am_M) : Prop := ∀ {k : Nat}, k < 10 → M 1 k = tb1 k
def T231 (M : am_M) : Prop := ∀ {k : Nat}, k < 28 → M 231 k = tb231 k
def T230 (M : am_M) : Prop := ∀ {k : Nat}, k < 10 → M 230 k = tb230 k
theorem x_longest {d nS n : Nat} {M : am_M} {Q : Option Value → am_H → Prop} (h2 : T2 M) (h3 : T3 M) (hn : n < 1000) : am_Wp (d + 2) 85 0 [.int (nI n), .retAddr 0, .retAddr 0, .retAddr 0, .retAddr 0] [] (hp nS M) Q = Q (some (.int (nI (bW n)))) (hp nS M) := by
  have key : ∀ m v z, v + m = n → am_Wp (d + 2) 85 6 [.int (nI n), .int (nI (bW v)), .int (ltr (bW v)), .int (nI (v + 1)), z] [] (hp nS M) Q = Q (some (.int (nI (bW n)))) (hp nS M) := by
    intro m
    induction m with
    | zero =>
      intro v z hv
      have : v = n := by omega
      subst this
      rw [b_85_6, if_pos (by rw [lt_n (by omega) (by omega)]; omega), b_85_34]
    | succ m ih =>
      intro v z hv
      rw [b_85_6, if_neg (by rw [lt_n (by omega) (by omega)]; omega), b_85_11, f_83_ok h2 h3 5 (ltr_2 (by omega)).1, am_ans_some, b_85_15]
      have e : bW (v + 1) = if ltr (v + 1) ≤ ltr (bW v) then bW v else v + 1 := rfl
      by_cases h : ltr (v + 1) ≤ ltr (bW v)
      · rw [if_pos h] at e
        rw [if_pos h, b_85_28, nI_1, ← e]
        exact ih (v + 1) _ (by omega)
      · rw [if_neg h] at e
        rw [if_neg h, b_85_23, b_85_28, nI_1]
        have := ih (v + 1) (.int (ltr (v + 1))) (by omega)
        rw [e] at this
        exact this
  rw [b_85_0, b_85_6, if_neg (by rw [li, lt_n (by omega) (by omega)]; omega), b_85_11]
  refine Eq.trans (f_83_ok h2 h3 5 (ltr_2 (show 0 < 1000 by omega)).1) ?_
  rw [am_ans_some, b_85_15, if_neg ltr_0, b_85_23, b_85_28]
  exact key n 0 _ (by omega)
theorem m_longest {d nS n : Nat} {x2 : Int32} {M : am_M} {Q : Option Value → am_H → Prop} (h2 : T231 M) (hn : n < 1000) : am_Wp (d + 1) 276 39 [.ref 205, .int (nI n), .int x2, .retAddr 0, .retAddr 0] [] (hp nS M) Q = Q (some (.int (nI (bW n)))) (hp nS M) := by
  have key : ∀ m v, v + m = n → am_Wp (d + 1) 276 44 [.ref 205, .int (nI n), .int x2, .int (nI (bW v)), .int (nI (v + 1))] [] (hp nS M) Q = Q (some (.int (nI (bW n)))) (hp nS M) := by
    intro m
    induction m with
    | zero =>
      intro v hv
      have : v = n := by omega
      subst this
      rw [b_276_44, if_pos (by rw [lt_n (by omega) (by omega)]; omega), b_276_73]
    | succ m ih =>
      intro v hv
      have := bW_le v
      rw [b_276_44, if_neg (by rw [lt_n (by omega) (by omega)]; omega), b_276_50, f_277_ok h2 5 (ltr_2 (by omega)).2, am_ans_some, b_276_56, f_277_ok h2 5 (ltr_2 (by omega)).2, am_ans_some, b_276_61]
      have e : bW (v + 1) = if ltr (v + 1) ≤ ltr (bW v) then bW v else v + 1 := rfl
      by_cases h : ltr (v + 1) ≤ ltr (bW v)
      · rw [if_pos h] at e
        rw [if_pos h, b_276_67, nI_1, ← e]
        exact ih (v + 1) (by omega)
      · rw [if_neg h] at e
        rw [if_neg h, b_276_64, b_276_67, nI_1]
        have := ih (v + 1) (by omega)
        rw [e] at this
        exact this
  rw [b_276_39]
  exact key n 0 (by omega)
/-! HOW MANY STICKS -/
theorem rem10 {v : Nat} (hv : v < 2147483648) : nI v - nI v / 10 * 10 = nI (v % 10) := pk_rem hv (by decide) (by decide)
theorem div10 {v : Nat} (hv : v < 2147483648) : nI v / 10 = nI (v / 10) := pk_div hv (by decide) (by decide)
def dgS : Nat → Int32 → Nat → Int32
  | 0, acc, _ => acc
  | f + 1, acc, v => if v = 0 then acc else dgS f (acc + tb1 (v % 10)) (v / 10)
theorem x_stk {d nS : Nat} {x0 : Int32} {M : am_M} {Q : Option Value → am_H → Prop} (h1 : T1 M) : ∀ (f v : Nat) (acc : Int32), v < 10 ^ f → v < 2147483648 → am_Wp d 79 14 [.int x0, .int acc, .int (nI v)] [] (hp nS M) Q = Q (some (.int (dgS f acc v))) (hp nS M) := by
  intro f
  induction f with
  | zero =>
    intro v acc hv _
    have : v = 0 := by omega
    subst this
    rw [b_79_14, if_pos (by decide), b_79_37]
    rfl
  | succ f ih =>
    intro v acc hv hb
    rw [b_79_14, dgS]
    by_cases h0 : v = 0
    · rw [if_pos (by rw [h0]; decide), b_79_37, if_pos h0]
    · have : 10 ^ (f + 1) = 10 * 10 ^ f := by rw [Nat.pow_succ, Nat.mul_comm]
      have hm := Nat.mod_lt v (show 0 < 10 by omega)
      rw [if_neg (by rw [li, le_n (by omega) (by omega)]; omega), if_neg h0, b_79_18 (by rw [rem10 hb]; exact in_n hm (by omega)), rem10 hb, div10 hb, cl_n (by omega), h1 hm]
      exact ih (v / 10) _ (by omega) (by omega)
theorem m_stk {d nS : Nat} {x1 : Int32} {M : am_M} {Q : Option Value → am_H → Prop} (h1 : T230 M) : ∀ (f v : Nat) (acc : Int32), v < 10 ^ f → v < 2147483648 → am_Wp d 273 13 [.ref 205, .int x1, .int acc, .int (nI v)] [] (hp nS M) Q = Q (some (.int (dgS f acc v))) (hp nS M) := by
  intro f
  induction f with
  | zero =>
    intro v acc hv _
    have : v = 0 := by omega
    subst this
    rw [b_273_13, if_pos (by decide), b_273_37]
    rfl
  | succ f ih =>
    intro v acc hv hb
    rw [b_273_13, dgS]
    by_cases h0 : v = 0
    · rw [if_pos (by rw [h0]; decide), b_273_37, if_pos h0]
    · have : 10 ^ (f + 1) = 10 * 10 ^ f := by rw [Nat.pow_succ, Nat.mul_comm]
      have hm := Nat.mod_lt v (show 0 < 10 by omega)
      rw [if_neg (by rw [li, le_n (by omega) (by omega)]; omega), if_neg h0, b_273_17 (by rw [rem10 hb]; exact in_n hm (by omega)), rem10 hb, div10 hb, cl_n (by omega), h1 hm]
      exact ih (v / 10) _ (by omega) (by omega)
def stkV (v : Nat) : Int32 := dgS 5 (tb1 (v % 10)) (v / 10)
theorem x_sticks {d nS v : Nat} {M : am_M} {Q : Option Value → am_H → Prop} (h1 : T1 M) (hv : v ≤ 99999) : am_Wp d 79 0 [.int (nI v), .retAddr 0, .retAddr 0] [] (hp nS M) Q = Q (some (.int (stkV v))) (hp nS M) := by
  have hm := Nat.mod_lt v (show 0 < 10 by omega)
  rw [b_79_0 (by rw [rem10 (by omega)]; exact in_n hm (by omega)), rem10 (by omega), div10 (by omega), cl_n (by omega), h1 hm]
  exact x_stk h1 5 (v / 10) _ (by omega) (by omega)
theorem m_sticks {d nS v : Nat} {M : am_M} {Q : Option Value → am_H → Prop} (h1 : T230 M) (hv : v ≤ 99999) : am_Wp d 273 0 [.ref 205, .int (nI v), .retAddr 0, .retAddr 0] [] (hp nS M) Q = Q (some (.int (stkV v))) (hp nS M) := by
  rw [b_273_0]
  by_cases h0 : v = 0
  · subst h0
    rw [if_neg (fun z => z rfl), b_273_4, b_273_10]
    exact m_stk h1 6 0 6 (by omega) (by omega)
  · rw [if_pos (nI_ne0 (by omega) (by omega)), b_273_9, b_273_10, m_stk h1 6 v 0 (by omega) (by omega), dgS, if_neg h0, Int32.zero_add]
    rfl
/-! TWOS THAT GO THE OTHER WAY -/
def nx (x : Int32) : Int32 := (x - (x &&& 1)) / (-2)
def tw : Nat → Int32 → Nat → Int32 → Int32 × Nat
  | 0, b, i, _ => (b, i)
  | f + 1, b, i, r => if r = 0 then (b, i) else tw f (b ||| ((r &&& 1) <<< (nI i &&& 31))) (i + 1) (nx r)
def twE : Nat → Int32 → Prop
  | 0, r => r = 0
  | f + 1, r => r = 0 ∨ twE f (nx r)
theorem nx_b {x : Int32} {B : Int} (h1 : -B ≤ x.toInt) (h2 : x.toInt ≤ B) (hB : B ≤ 1000000) : -((B + 1) / 2) ≤ (nx x).toInt ∧ (nx x).toInt ≤ (B + 1) / 2 := by
  unfold nx
  rw [Int32.toInt_div_of_ne_right _ _ (by decide), Int32.toInt_sub]
  have e2 : (-2 : Int32).toInt = -2 := by decide
  rw [e2]
  have hb : ((x &&& 1).toInt = 0) ∨ ((x &&& 1).toInt = 1) := by
    rcases bit_01 x with h | h
    · rw [h]; exact Or.inl (by decide)
    · rw [h]; exact Or.inr (by decide)
  have eb : (x.toInt - (x &&& 1).toInt).bmod (2 ^ 32) = x.toInt - (x &&& 1).toInt := Int.bmod_eq_of_le (by omega) (by omega)
  rw [eb, Int.tdiv_neg]
  generalize hy : x.toInt - (x &&& 1).toInt = y
  rcases Int.le_total 0 y with h | h
  · rw [Int.tdiv_eq_ediv_of_nonneg h]
    omega
  · have : y.tdiv 2 = -((-y) / 2) := by
      rw [← Int.tdiv_eq_ediv_of_nonneg (show 0 ≤ -y by omega), Int.neg_tdiv, Int.neg_neg]
    rw [this]
    omega
theorem int_eq {x y : Int32} (h : x.toInt = y.toInt) : x = y := Int32.toInt_inj.mp h
theorem nx_0 {x : Int32} (h1 : -1000000 ≤ x.toInt) (h2 : x.toInt ≤ 1000000) (h : nx x = 0) : x = 0 ∨ x = 1 := by
  have h3 : (nx x).toInt = 0 := by rw [h]; decide
  unfold nx at h3
  rw [Int32.toInt_div_of_ne_right _ _ (by decide), Int32.toInt_sub] at h3
  have e2 : (-2 : Int32).toInt = -2 := by decide
  rw [e2] at h3
  have hb : ((x &&& 1).toInt = 0) ∨ ((x &&& 1).toInt = 1) := by
    rcases bit_01 x with h | h
    · rw [h]; exact Or.inl (by decide)
    · rw [h]; exact Or.inr (by decide)
  have eb : (x.toInt - (x &&& 1).toInt).bmod (2 ^ 32) = x.toInt - (x &&& 1).toInt := Int.bmod_eq_of_le (by omega) (by omega)
  rw [eb, Int.tdiv_neg] at h3
  have h4 : -2 ≤ x.toInt ∧ x.toInt ≤ 2 := by
    generalize hy : x.toInt - (x &&& 1).toInt = y at h3
    rcases Int.le_total 0 y with h | h
    · rw [Int.tdiv_eq_ediv_of_nonneg h] at h3
      omega
    · have : y.tdiv 2 = -((-y) / 2) := by
        rw [← Int.tdiv_eq_ediv_of_nonneg (show 0 ≤ -y by omega), Int.neg_tdiv, Int.neg_neg]
      rw [this] at h3
      omega
  have h5 : x.toInt = -2 ∨ x.toInt = -1 ∨ x.toInt = 0 ∨ x.toInt = 1 ∨ x.toInt = 2 := by omega
  rcases h5 with h5 | h5 | h5 | h5 | h5
  · have : x = -2 := int_eq (by rw [h5]; decide)
    subst this; exact absurd h (by decide)
  · have : x = -1 := int_eq (by rw [h5]; decide)
    subst this; exact absurd h (by decide)
  · exact Or.inl (int_eq (by rw [h5]; decide))
  · exact Or.inr (int_eq (by rw [h5]; decide))
  · have : x = 2 := int_eq (by rw [h5]; decide)
    subst this; exact absurd h (by decide)
theorem tw_e1 {x : Int32} (h1 : -1 ≤ x.toInt) (h2 : x.toInt ≤ 1) : twE 2 x := by
  have h5 : x.toInt = -1 ∨ x.toInt = 0 ∨ x.toInt = 1 := by omega
  rcases h5 with h5 | h5 | h5
  · have : x = -1 := int_eq (by rw [h5]; decide)
    subst this; exact Or.inr (Or.inr (show nx (nx (-1)) = 0 by decide))
  · exact Or.inl (int_eq (by rw [h5]; decide))
  · have : x = 1 := int_eq (by rw [h5]; decide)
    subst this; exact Or.inr (Or.inl (show nx 1 = 0 by decide))
theorem tw_e : ∀ (k : Nat) (x : Int32), k ≤ 14 → -(2 ^ k : Int) ≤ x.toInt → x.toInt ≤ 2 ^ k → twE (k + 2) x := by
  intro k
  induction k with
  | zero => intro x _ h1 h2; exact tw_e1 (by simpa using h1) (by simpa using h2)
  | succ k ih =>
    intro x hk h1 h2
    have hp : (2 : Int) ^ (k + 1) = 2 * 2 ^ k := by rw [Int.pow_succ, Int.mul_comm]
    have hpp : (2 : Int) ^ k ≤ 2 ^ 13 := by
      have : (2 : Nat) ^ k ≤ 2 ^ 13 := Nat.pow_le_pow_right (by omega) (by omega)
      exact_mod_cast this
    have hp0 : (1 : Int) ≤ 2 ^ k := by
      have : 1 ≤ (2 : Nat) ^ k := Nat.pow_pos (by omega)
      exact_mod_cast this
    have := nx_b (B := 2 ^ (k + 1)) h1 h2 (by rw [hp]; omega)
    refine Or.inr (ih (nx x) (by omega) ?_ ?_)
    · omega
    · omega
theorem x_twos {d nS : Nat} {x0 : Int32} {M : am_M} {Q : Option Value → am_H → Prop} : ∀ (f : Nat) (b : Int32) (i : Nat) (r : Int32) (z : Value), twE f r → i + f ≤ 31 → am_Wp d 81 6 [.int x0, .int b, .int r, .int (nI i), z] [] (hp nS M) Q = Q (some (.int (tw f b i r).1)) (hp nS M) := by
  intro f
  induction f with
  | zero =>
    intro b i r z he hi
    have : r = 0 := he
    subst this
    rw [b_81_6]
    by_cases h : 31 ≤ i
    · rw [if_pos (by rw [li, le_n (by omega) (by omega)]; exact h), b_81_42]; rfl
    · rw [if_neg (by rw [li, le_n (by omega) (by omega)]; exact h), b_81_12, if_pos rfl, b_81_42]; rfl
  | succ f ih =>
    intro b i r z he hi
    rw [b_81_6, if_neg (by rw [li, le_n (by omega) (by omega)]; omega), b_81_12, tw]
    by_cases h0 : r = 0
    · rw [if_pos h0, if_pos h0, b_81_42]
    · rw [if_neg h0, if_neg h0, b_81_16, nI_1]
      exact ih _ (i + 1) (nx r) _ (he.resolve_left h0) (by omega)
theorem m_twos {d nS : Nat} {x1 x2 : Int32} {M : am_M} {Q : Option Value → am_H → Prop} : ∀ (f : Nat) (b : Int32) (i : Nat) (r : Int32) (z : Value), twE f r → i + f ≤ 31 → (1 ≤ i ∨ ¬ r = 0) → ∃ z', am_Wp d 275 39 [.ref 205, .int x1, .int x2, .int b, .int (nI i), .int r, z] [] (hp nS M) Q = am_Wp d 275 82 [.ref 205, .int x1, .int x2, .int (tw f b i r).1, .int (nI (tw f b i r).2), .int 0, z'] [] (hp nS M) Q := by
  intro f
  induction f with
  | zero =>
    intro b i r z he hi h1
    have : r = 0 := he
    subst this
    exact ⟨z, by rw [b_275_39, if_neg (fun z => z rfl), b_275_44, if_pos (nI_ne0 (by rcases h1 with h | h; exact h; exact absurd rfl h) (by omega))]; rfl⟩
  | succ f ih =>
    intro b i r z he hi h1
    rw [b_275_39, tw]
    by_cases h0 : r = 0
    · subst h0
      exact ⟨z, by rw [if_neg (fun z => z rfl), if_pos rfl, b_275_44, if_pos (nI_ne0 (by rcases h1 with h | h; exact h; exact absurd rfl h) (by omega))]⟩
    · rw [if_pos h0, if_neg h0, b_275_49, nI_1]
      exact ih _ (i + 1) (nx r) _ (he.resolve_left h0) (by omega) (Or.inl (by omega))
/-- the bits that come out end with the last one -/
theorem tw_top : ∀ (f : Nat) (b : Int32) (i : Nat) (r : Int32), twE f r → i + f ≤ 31 → -1000000 ≤ r.toInt → r.toInt ≤ 1000000 → (∀ j, i ≤ j → j < 32 → bt b j = false) → (¬ r = 0 ∨ (1 ≤ i ∧ bt b (i - 1) = true)) → 1 ≤ (tw f b i r).2 ∧ (tw f b i r).2 ≤ 31 ∧ bt (tw f b i r).1 ((tw f b i r).2 - 1) = true ∧ ∀ j, (tw f b i r).2 ≤ j → j < 32 → bt (tw f b i r).1 j = false := by
  intro f
  induction f with
  | zero =>
    intro b i r he hi _ _ hb ht
    have : r = 0 := he
    subst this
    rcases ht with ht | ht
    · exact absurd rfl ht
    · exact ⟨ht.1, by show i ≤ 31; omega, ht.2, hb⟩
  | succ f ih =>
    intro b i r he hi h1 h2 hb ht
    rw [tw]
    by_cases h0 : r = 0
    · rw [if_pos h0]
      rcases ht with ht | ht
      · exact absurd h0 ht
      · exact ⟨ht.1, by show i ≤ 31; omega, ht.2, hb⟩
    · rw [if_neg h0]
      have hn := nx_b (B := 1000000) h1 h2 (by omega)
      refine ih _ (i + 1) (nx r) (he.resolve_left h0) (by omega) (by omega) (by omega) (fun j hj hj2 => ?_) ?_
      · rw [b_or, hb j (by omega) hj2, Bool.false_or, b_shl i (by omega) _ hj2, b_and, bt_1 (j - i) (by omega), decide_eq_false (show ¬ j - i = 0 by omega), Bool.and_false, Bool.and_false]
      · by_cases hz : nx r = 0
        · refine Or.inr ⟨by omega, ?_⟩
          rcases nx_0 h1 h2 hz with h | h
          · exact absurd h h0
          · subst h
            rw [show i + 1 - 1 = i by omega, b_or, b_shl i (by omega) _ (by omega), Nat.sub_self, decide_eq_true (Nat.le_refl i)]
            have : bt ((1 : Int32) &&& 1) 0 = true := by decide
            rw [this, Bool.and_true, Bool.or_true]
        · exact Or.inl hz
theorem x_length {d nS K : Nat} {b : Int32} {M : am_M} {Q : Option Value → am_H → Prop} (h1 : 1 ≤ K) (h31 : K ≤ 31) (ht : bt b (K - 1) = true) (hz : ∀ j, K ≤ j → j < 32 → bt b j = false) : am_Wp d 82 0 [.int b, .retAddr 0] [] (hp nS M) Q = Q (some (.int (nI K))) (hp nS M) := by
  have key : ∀ m s, s + m = K → 1 ≤ s → am_Wp d 82 2 [.int b, .int (nI s)] [] (hp nS M) Q = Q (some (.int (nI K))) (hp nS M) := by
    intro m
    induction m with
    | zero =>
      intro s hs hs1
      have : s = K := by omega
      subst this
      rw [b_82_2]
      by_cases h : 31 ≤ s
      · rw [if_pos (by rw [li, le_n (by omega) (by omega)]; exact h), b_82_20]
      · rw [if_neg (by rw [li, le_n (by omega) (by omega)]; exact h), b_82_8, if_pos, b_82_20]
        refine b_ext (fun i hi => ?_)
        rw [b_sshr s (by omega) _ hi, b_0]
        by_cases h2 : s + i < 32
        · rw [if_pos h2]; exact hz _ (by omega) h2
        · rw [if_neg h2]; exact hz _ (by omega) (by omega)
    | succ m ih =>
      intro s hs hs1
      rw [b_82_2, if_neg (by rw [li, le_n (by omega) (by omega)]; omega), b_82_8, if_neg, b_82_14, nI_1]
      · exact ih (s + 1) (by omega) (by omega)
      · intro z
        have h3 := b_sshr s (by omega) b (show K - 1 - s < 32 by omega)
        rw [z, b_0, if_pos (by omega), show s + (K - 1 - s) = K - 1 by omega, ht] at h3
        cases h3
  rw [b_82_0]
  exact key (K - 1) 1 (by omega) (by omega)
end
