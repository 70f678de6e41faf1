section
/-- ways told: between p and q -/
def wyB (ea eb : Nat → Nat) : Nat → Nat → Nat → Bool
  | 0, _, _ => false
  | c + 1, p, q => wyB ea eb c p q || decide (p = ea c ∧ q = eb c) || decide (p = eb c ∧ q = ea c)
theorem mul2 (a : Nat) : nI a * 2 = nI (2 * a) := by rw [Nat.mul_comm]; exact pk_mul a 2
theorem near_s (r : Nat → Int32) {a b p q : Nat} (ha : a < 8) (hb : b < 8) (hq : q < 8) : bt (upd (upd r a (r a ||| ((1 : Int32) <<< (nI b &&& 31)))) b ((upd r a (r a ||| ((1 : Int32) <<< (nI b &&& 31)))) b ||| ((1 : Int32) <<< (nI a &&& 31))) p) q = (bt (r p) q || decide (p = a ∧ q = b) || decide (p = b ∧ q = a)) := by
  by_cases e1 : p = b
  · subst e1
    rw [upd_same, bit_set (by omega) (by omega)]
    by_cases e2 : p = a
    · subst e2
      rw [upd_same, bit_set (by omega) (by omega)]
      simp
    · rw [upd_ne _ _ e2]
      simp [e2]
  · rw [upd_ne _ _ e1]
    by_cases e2 : p = a
    · subst e2
      rw [upd_same, bit_set (by omega) (by omega)]
      simp [e1]
    · rw [upd_ne _ _ e2]
      simp [e1, e2]
theorem x_joins {d nS c : Nat} {M : am_M} {Q : Option Value → am_H → Prop} (ea eb : Nat → Nat) (hc : M 50 1 = nI c) (hc14 : c ≤ 14) (he : ∀ i, i < c → M 51 (2 * i) = nI (ea i) ∧ M 51 (2 * i + 1) = nI (eb i) ∧ ea i < 8 ∧ eb i < 8) (hQ : ∀ r : Nat → Int32, (∀ p q, p < 8 → q < 8 → bt (r p) q = (decide (p = q) || wyB ea eb c p q)) → Q none (hp nS (am_row M 52 r))) : am_Wp d 14 0 [.ref 50, .retAddr 0, .retAddr 0, .retAddr 0] [] (hp nS M) Q := by
  have key : ∀ m i (r : Nat → Int32) z2 z3, i + m = c → (∀ p q, p < 8 → q < 8 → bt (r p) q = (decide (p = q) || wyB ea eb i p q)) → am_Wp d 14 25 [.ref 50, .int (nI i), z2, z3] [] (hp nS (am_row M 52 r)) Q := by
    intro m
    induction m with
    | zero =>
      intro i r z2 z3 hi hr
      have : i = c := by omega
      subst this
      rw [b_14_25, if_pos (by rw [row_ne _ _ (by decide), hc]; exact Int32.le_refl _), b_14_83]
      exact hQ r hr
    | succ m ih =>
      intro i r z2 z3 hi hr
      obtain ⟨h1, h2, h3, h4⟩ := he i (by omega)
      have e51 : am_row M 52 r 51 = M 51 := row_ne _ _ (by decide)
      have f1 : am_row M 52 r 51 (nI i * 2).toNatClampNeg = nI (ea i) := by rw [e51, mul2, cl_n (by omega), h1]
      have f2 : am_row M 52 r 51 (nI i * 2 + 1).toNatClampNeg = nI (eb i) := by rw [e51, mul2, nI_1, cl_n (by omega), h2]
      rw [b_14_25, if_neg (by rw [row_ne _ _ (by decide), hc, le_n (by omega) (by omega)]; omega), b_14_33 (by rw [mul2]; exact in_n (by omega) (by omega)) (by rw [mul2, nI_1]; exact in_n (by omega) (by omega)) (by rw [f1]; exact in_n (by omega) (by omega)) (by rw [f1]; exact in_n (by omega) (by omega)) (by rw [f2]; exact in_n (by omega) (by omega)) (by rw [f2]; exact in_n (by omega) (by omega)), f1, f2, cl_n (by omega), cl_n (by omega), row_same, up_row, row_same, up_row, nI_1]
      refine ih (i + 1) _ _ _ (by omega) (fun p q hp hq => ?_)
      rw [near_s r h3 h4 hq, hr p q hp hq]
      show _ = (_ || (wyB ea eb i p q || _ || _))
      simp only [Bool.or_assoc]
  have key1 : ∀ m p (r : Nat → Int32), p + m = 8 → (∀ j q, j < p → q < 8 → bt (r j) q = decide (j = q)) → am_Wp d 14 2 [.ref 50, .int (nI p), .retAddr 0, .retAddr 0] [] (hp nS (am_row M 52 r)) Q := by
    intro m
    induction m with
    | zero =>
      intro p r hp hr
      have : p = 8 := by omega
      subst this
      rw [b_14_2, if_pos (by decide), b_14_23]
      refine key c 0 r _ _ (by omega) (fun p q hp hq => ?_)
      rw [hr p q hp hq]
      show _ = (_ || false)
      rw [Bool.or_false]
    | succ m ih =>
      intro p r hp hr
      rw [b_14_2, if_neg (by rw [li, le_n (by omega) (by omega)]; omega), b_14_8 (by first | exact in_n (by omega) (by omega) | (simp only [li, nI_add, pk_mul]; exact in_n (by omega) (by omega))), cl_n (by omega), up_row, nI_1]
      refine ih (p + 1) _ (by omega) (fun j q hj hq => ?_)
      rw [upd_at]
      by_cases e : j = p
      · rw [if_pos e, bit_one (by omega) (by omega), e]
        by_cases e2 : q = p
        · rw [e2]
        · rw [decide_eq_false e2, decide_eq_false (fun z => e2 z.symm)]
      · rw [if_neg e, hr j q (by omega) hq]
  rw [b_14_0, ← row_id M 52]
  exact key1 8 0 _ (by omega) (fun j q hj => absurd hj (by omega))
theorem kB_mono {K : Nat → Option Nat} {s t : Nat} (h : kB K s) (hst : s ≤ t) : kB K t := fun k g hk => Nat.le_trans (h k g hk) hst
theorem k0_y {s : Nat} (h : s / 8 = s % 8) : k0 s = some 0 := if_pos h
theorem k0_n {s : Nat} (h : ¬ s / 8 = s % 8) : k0 s = none := if_neg h
theorem x_goings {d nS c a b N : Nat} {M : am_M} {Q : Option Value → am_H → Prop} (ea eb : Nat → Nat) (ng : Nat → Nat → Bool) (hc : M 50 1 = nI c) (hc14 : c ≤ 14) (he : ∀ i, i < c → M 51 (2 * i) = nI (ea i) ∧ M 51 (2 * i + 1) = nI (eb i) ∧ ea i < 8 ∧ eb i < 8) (hng : ∀ p q, p < 8 → q < 8 → (decide (p = q) || wyB ea eb c p q) = ng p q) (hN : tnN ng N) (hN64 : N ≤ 64) (ha : a < 8) (hb : b < 8) (hQ : ∀ r r' : Nat → Int32, Q (some (.int (kC ((tnS ng N).1 (8 * a + b))))) (hp nS (am_row (am_row M 52 r) 53 r'))) : am_Wp (d + 3) 13 0 [.ref 50, .int (nI a), .int (nI b), .retAddr 0, .retAddr 0] [] (hp nS M) Q := by
  rw [b_13_0]
  refine x_joins ea eb hc hc14 he (fun r hr => ?_)
  rw [am_ans_none]
  have ex : ∀ r' : Nat → Int32, ∀ z3 z4 : Int32, (∀ k, k < 64 → r' k = kC ((tnS ng N).1 k)) → am_Wp (d + 3) 13 69 [.ref 50, .int (nI a), .int (nI b), .int z3, .int z4] [] (hp nS (am_row (am_row M 52 r) 53 r')) Q := by
    intro r' z3 z4 hr'
    rw [b_13_69 (by rw [mul8]; exact in_n (by omega) (by omega)), mul8, cl_n (by omega), row_same, hr' _ (by omega)]
    exact hQ r r'
  have key : ∀ m s (r' : Nat → Int32), s + m = N → (∀ k, k < 64 → r' k = kC ((tnS ng s).1 k)) → am_Wp (d + 3) 13 45 [.ref 50, .int (nI a), .int (nI b), .int (bI (tnS ng s).2), .int (nI (s + 1))] [] (hp nS (am_row (am_row M 52 r) 53 r')) Q := by
    intro m
    induction m with
    | zero =>
      intro s r' hs hr'
      have : s = N := by omega
      subst this
      rw [b_13_45]
      by_cases h64 : 64 < s + 1
      · rw [if_pos (by rw [li, lt_n (by omega) (by omega)]; exact h64)]
        exact ex r' _ _ hr'
      · rw [if_neg (by rw [li, lt_n (by omega) (by omega)]; exact h64), b_13_52, if_pos (by rw [hN.2]; rfl)]
        exact ex r' _ _ hr'
    | succ m ih =>
      intro s r' hs hr'
      rw [b_13_45, if_neg (by rw [li, lt_n (by omega) (by omega)]; omega), b_13_52, if_neg (by rw [hN.1 s (by omega)]; decide), b_13_56]
      refine x_learns ng (tnS ng s).1 r' (fun p q hp hq => by rw [row_same, hr p q hp hq]; exact hng p q hp hq) hr' (kB_mono (tnS_b ng s) (by omega)) (by omega) (fun r2 hr2 => ?_)
      rw [am_ans_some, b_13_62, nI_1]
      have := ih (s + 1) r2 (by omega)
      rw [show tnS ng (s + 1) = scS ng (s + 1) (tnS ng s).1 64 from rfl] at this
      exact this hr2
  have key1 : ∀ m s (r' : Nat → Int32), s + m = 64 → (∀ k, k < s → r' k = kC (k0 k)) → am_Wp (d + 3) 13 6 [.ref 50, .int (nI a), .int (nI b), .int (nI s), .retAddr 0] [] (hp nS (am_row (am_row M 52 r) 53 r')) Q := by
    intro m
    induction m with
    | zero =>
      intro s r' hs hr'
      have : s = 64 := by omega
      subst this
      rw [b_13_6, if_pos (by decide), b_13_40]
      exact key N 0 r' (by omega) hr'
    | succ m ih =>
      intro s r' hs hr'
      have ed : nI s / 8 = nI (s / 8) := pk_div (by omega) (by decide) (by decide)
      have er : nI s - nI s / 8 * 8 = nI (s % 8) := pk_rem (by omega) (by decide) (by decide)
      have step : ∀ v, v = kC (k0 s) → am_Wp (d + 3) 13 33 [.ref 50, .int (nI a), .int (nI b), .int (nI s), .retAddr 0] [.int v, .int (nI s), .ref 53] (hp nS (am_row (am_row M 52 r) 53 r')) Q := by
        intro v hv
        rw [b_13_33 (by first | exact in_n (by omega) (by omega) | (simp only [li, nI_add, pk_mul]; exact in_n (by omega) (by omega))), cl_n (by omega), up_row, nI_1]
        refine ih (s + 1) _ (by omega) (fun k hk => ?_)
        rw [upd_at]
        by_cases e : k = s
        · rw [if_pos e, hv, e]
        · rw [if_neg e, hr' k (by omega)]
      rw [b_13_6, if_neg (by rw [li, le_n (by omega) (by omega)]; omega), b_13_12]
      by_cases e : s / 8 = s % 8
      · rw [if_neg (fun z => z (by rw [er, ed, e])), b_13_28]
        exact step 0 (by rw [k0_y e]; rfl)
      · rw [if_pos (by rw [er, ed, eq_n (by omega) (by omega)]; exact e), b_13_32]
        exact step (-1) (by rw [k0_n e]; rfl)
  rw [b_13_4, ← row_id (am_row M 52 r) 53]
  exact key1 64 0 _ (by omega) (fun k hk => absurd hk (by omega))
/-! the model -/
def kM (o : Option Nat) : Int32 := match o with
  | some g => nI g
  | none => 100000000
theorem kM_lt {o : Option Nat} {t : Nat} (hb : ∀ g, o = some g → g ≤ t) (ht : t ≤ 1000) : (kM o < nI t) = (kLt o t = true) := by
  cases o with
  | none =>
    refine propext ⟨fun h => ?_, fun h => (by cases h)⟩
    have h : nI 100000000 < nI t := h
    rw [lt_n (by omega) (by omega)] at h
    omega
  | some g =>
    have := hb g rfl
    show (nI g < nI t) = (decide (g < t) = true)
    rw [lt_n (by omega) (by omega), decide_eq_true_eq]
theorem kM_far {o : Option Nat} {t : Nat} (hb : ∀ g, o = some g → g ≤ t) (ht : t ≤ 1000) : (kM o < 100000000) = (¬ o = none) := by
  cases o with
  | none => exact propext ⟨fun h => absurd h (by decide), fun h => absurd rfl h⟩
  | some g =>
    have := hb g rfl
    refine propext ⟨fun _ h => (by cases h), fun _ => ?_⟩
    show nI g < nI 100000000
    rw [lt_n (by omega) (by omega)]
    omega
theorem m_can {d nS a b : Nat} {M : am_M} {Q : Option Value → am_H → Prop} (ng : Nat → Nat → Bool) (hn : ∀ p q, p < 8 → q < 8 → (decide (p = q) || bt (M 232 p) q) = ng p q) (ha : a < 8) (hb : b < 8) : am_Wp (d + 1) 282 0 [.ref 205, .int (nI a), .int (nI b)] [] (hp nS M) Q = Q (some (.int (bI (ng a b)))) (hp nS M) := by
  rw [c_282 (fun _ => in_n (by omega) (by omega)), cl_n (by omega), ← hn a b ha hb]
  by_cases e : a = b
  · rw [if_pos (Or.inl (by rw [e])), decide_eq_true e]; rfl
  · rw [decide_eq_false e, Bool.false_or]
    cases h : bt (M 232 a) b with
    | true => rw [if_pos (Or.inr (fun z => z (by rw [bit_get (by omega)]; exact h)))]; rfl
    | false =>
      rw [if_neg]
      · rfl
      · intro z
        rcases z with z | z
        · rw [eq_n (by omega) (by omega)] at z; exact e z
        · exact z (by rw [bit_get (by omega), h]; decide)
theorem m_hop {d nS t l to : Nat} {M : am_M} {Q : Option Value → am_H → Prop} (ng : Nat → Nat → Bool) (K : Nat → Option Nat) (x1 : Int32) (hn : ∀ p q, p < 8 → q < 8 → (decide (p = q) || bt (M 232 p) q) = ng p q) (hK : ∀ s, s < 64 → M 233 s = kM (K s)) (hB : kB K t) (ht : t ≤ 100) (hl : l < 8) (hto : to < 8) : ∀ m b, m ≤ 8 → am_Wp (d + 2) 281 37 [.ref 205, .int x1, .int (nI l), .int (nI t), .int (nI to), .int (bI b), .int (nI (8 - m))] [] (hp nS M) Q = am_Wp (d + 2) 281 80 [.ref 205, .int x1, .int (nI l), .int (nI t), .int (nI to), .int (bI (b && hpS ng K t to l m)), .int 8] [] (hp nS M) Q := by
  intro m
  induction m with
  | zero =>
    intro b _
    rw [b_281_37, if_pos (by decide)]
    show _ = am_Wp (d + 2) 281 80 [.ref 205, .int x1, .int (nI l), .int (nI t), .int (nI to), .int (bI (b && true)), .int 8] [] (hp nS M) Q
    rw [Bool.and_true]
    rfl
  | succ m ih =>
    intro b hm
    have e7 : 8 - (m + 1) = 7 - m := by omega
    have e8 : 7 - m + 1 = 8 - m := by omega
    have eh : hpS ng K t to l (m + 1) = ((!ng l (7 - m) || kLt (K (8 * to + (7 - m))) t) && hpS ng K t to l m) := rfl
    have cont : ∀ b', am_Wp (d + 2) 281 74 [.ref 205, .int x1, .int (nI l), .int (nI t), .int (nI to), .int (bI b'), .int (nI (7 - m))] [] (hp nS M) Q = am_Wp (d + 2) 281 80 [.ref 205, .int x1, .int (nI l), .int (nI t), .int (nI to), .int (bI (b' && hpS ng K t to l m)), .int 8] [] (hp nS M) Q := by
      intro b'
      rw [b_281_74, nI_1, e8]
      exact ih b' (by omega)
    rw [e7, b_281_37, if_neg (by rw [li, le_n (by omega) (by omega)]; omega), b_281_44, m_can ng hn hl (by omega), am_ans_some, b_281_51, eh]
    cases hg : ng l (7 - m) with
    | false =>
      rw [if_pos (by rfl), cont]
      rfl
    | true =>
      rw [if_neg (by decide), b_281_54 (by rw [mul8']; exact in_n (by omega) (by omega)), mul8', cl_n (by omega), hK _ (by omega)]
      cases hk : kLt (K (8 * to + (7 - m))) t with
      | true =>
        rw [if_pos (by rw [kM_lt (hB _) (by omega)]; exact hk), cont]
        rfl
      | false =>
        rw [if_neg (by rw [kM_lt (hB _) (by omega), hk]; decide), b_281_71]
        have := cont false
        rw [Bool.false_and] at this
        show am_Wp (d + 2) 281 74 [.ref 205, .int x1, .int (nI l), .int (nI t), .int (nI to), .int (bI false), .int (nI (7 - m))] [] (hp nS M) Q = _
        rw [this]
        have : (b && (!true || false) && hpS ng K t to l m) = false := by cases b <;> rfl
        rw [← Bool.and_assoc, this]
theorem m_within {d nS t h l : Nat} {M : am_M} {Q : Option Value → am_H → Prop} (ng : Nat → Nat → Bool) (K : Nat → Option Nat) (hn : ∀ p q, p < 8 → q < 8 → (decide (p = q) || bt (M 232 p) q) = ng p q) (hK : ∀ s, s < 64 → M 233 s = kM (K s)) (hB : kB K t) (ht : t ≤ 100) (hh : h < 8) (hl : l < 8) : am_Wp (d + 2) 281 0 [.ref 205, .int (nI h), .int (nI l), .int (nI t), .retAddr 0, .retAddr 0, .retAddr 0] [] (hp nS M) Q = Q (some (.int (bI (ctS ng K t h l 8)))) (hp nS M) := by
  have key : ∀ m z5 z6, m ≤ 8 → am_Wp (d + 2) 281 3 [.ref 205, .int (nI h), .int (nI l), .int (nI t), .int (nI (8 - m)), z5, z6] [] (hp nS M) Q = Q (some (.int (bI (ctS ng K t h l m)))) (hp nS M) := by
    intro m
    induction m with
    | zero => intro z5 z6 _; rw [b_281_3, if_pos (by decide), b_281_93]; rfl
    | succ m ih =>
      intro z5 z6 hm
      have e7 : 8 - (m + 1) = 7 - m := by omega
      have e8 : 7 - m + 1 = 8 - m := by omega
      have eh : ctS ng K t h l (m + 1) = ((ng h (7 - m) && (decide (7 - m = l) || hpS ng K t (7 - m) l 8)) || ctS ng K t h l m) := rfl
      have cont : ∀ z5 z6, am_Wp (d + 2) 281 87 [.ref 205, .int (nI h), .int (nI l), .int (nI t), .int (nI (7 - m)), z5, z6] [] (hp nS M) Q = Q (some (.int (bI (ctS ng K t h l m)))) (hp nS M) := by
        intro z5 z6
        rw [b_281_87, nI_1, e8]
        exact ih _ _ (by omega)
      rw [e7, b_281_3, if_neg (by rw [li, le_n (by omega) (by omega)]; omega), b_281_10, m_can ng hn hh (by omega), am_ans_some, b_281_17, eh]
      cases hg : ng h (7 - m) with
      | false => rw [if_neg (by decide), b_281_20, cont]; rfl
      | true =>
        rw [if_pos (by decide), b_281_23]
        by_cases he : 7 - m = l
        · rw [if_neg (fun z => z (by rw [he])), b_281_29, decide_eq_true he]; rfl
        · rw [if_pos (by rw [eq_n (by omega) (by omega)]; exact he), b_281_31]
          have := m_hop (d := d) (nS := nS) (M := M) (Q := Q) ng K (nI h) hn hK hB ht hl (show 7 - m < 8 by omega) 8 true (by omega)
          rw [Bool.true_and] at this
          refine Eq.trans this ?_
          rw [b_281_80, decide_eq_false he]
          cases hx : hpS ng K t (7 - m) l 8 with
          | false => rw [if_pos (by rfl), cont]; rfl
          | true => rw [if_neg (by decide), b_281_85]; rfl
  rw [b_281_0]
  exact key 8 _ _ (by omega)
theorem up_kM (r : Nat → Int32) (K : Nat → Option Nat) (s t : Nat) (h : ∀ k, k < 64 → r k = kM (K k)) : ∀ k, k < 64 → upd r s (nI t) k = kM (if k = s then some t else K k) := by
  intro k hk
  rw [upd_at]
  by_cases e : k = s
  · rw [if_pos e, if_pos e]; rfl
  · rw [if_neg e, if_neg e, h k hk]
theorem m_scan {d nS t : Nat} {M : am_M} {Q : Option Value → am_H → Prop} (ng : Nat → Nat → Bool) (K : Nat → Option Nat) (x1 x2 : Int32) (hn : ∀ p q, p < 8 → q < 8 → (decide (p = q) || bt (M 232 p) q) = ng p q) (hB : kB K t) (ht : t ≤ 100) (hQ : ∀ r' : Nat → Int32, (∀ s, s < 64 → r' s = kM ((scS ng t K 64).1 s)) → am_Wp (d + 3) 280 136 [.ref 205, .int x1, .int x2, .int (bI (scS ng t K 64).2), .int (nI t), .int 64] [] (hp nS (am_row M 233 r')) Q) : ∀ m s r, s + m = 64 → (∀ k, k < 64 → r k = kM ((scS ng t K s).1 k)) → am_Wp (d + 3) 280 77 [.ref 205, .int x1, .int x2, .int (bI (scS ng t K s).2), .int (nI t), .int (nI s)] [] (hp nS (am_row M 233 r)) Q := by
  intro m
  induction m with
  | zero =>
    intro s r hs hr
    have : s = 64 := by omega
    subst this
    rw [b_280_77, if_pos (by decide)]
    exact hQ r hr
  | succ m ih =>
    intro s r hs hr
    have hB' := scS_b (ng := ng) hB s
    have ed : nI s / 8 = nI (s / 8) := pk_div (by omega) (by decide) (by decide)
    have er : nI s - nI s / 8 * 8 = nI (s % 8) := pk_rem (by omega) (by decide) (by decide)
    rw [b_280_77, if_neg (by rw [li, le_n (by omega) (by omega)]; omega), b_280_84 (by first | exact in_n (by omega) (by omega) | (simp only [li, nI_add, pk_mul]; exact in_n (by omega) (by omega))), cl_n (by omega), row_same, hr s (by omega)]
    by_cases h1 : (scS ng t K s).1 s = none
    · rw [if_neg (by rw [kM_far (hB' s) (by omega)]; exact fun z => z h1), b_280_97, er, ed, m_within ng (scS ng t K s).1 (fun p q hp hq => by rw [row_ne _ _ (by decide)]; exact hn p q hp hq) (fun k hk => by rw [row_same]; exact hr k hk) hB' ht (by omega) (by omega), am_ans_some, b_280_113]
      cases h2 : ctS ng (scS ng t K s).1 t (s / 8) (s % 8) 8 with
      | true =>
        rw [if_pos (by decide), b_280_119 (by first | exact in_n (by omega) (by omega) | (simp only [li, nI_add, pk_mul]; exact in_n (by omega) (by omega))), b_280_130, cl_n (by omega), up_row, nI_1]
        have e := scS_y (ng := ng) ⟨h1, h2⟩
        have := ih (s + 1) (upd r s (nI t)) (by omega)
        rw [e] at this
        exact this (up_kM r _ s t hr)
      | false =>
        rw [if_neg (by decide), b_280_116, b_280_130, nI_1]
        have e := scS_n (ng := ng) (t := t) (K := K) (s := s) (fun z => by rw [h2] at z; exact absurd z.2 (by decide))
        have := ih (s + 1) r (by omega)
        rw [e] at this
        exact this hr
    · rw [if_pos (by rw [kM_far (hB' s) (by omega)]; exact h1), b_280_130, nI_1]
      have e := scS_n (ng := ng) (t := t) (K := K) (s := s) (fun z => h1 z.1)
      have := ih (s + 1) r (by omega)
      rw [e] at this
      exact this hr
theorem m_caught {d nS a b N : Nat} {M : am_M} {Q : Option Value → am_H → Prop} (ng : Nat → Nat → Bool) (hn : ∀ p q, p < 8 → q < 8 → (decide (p = q) || bt (M 232 p) q) = ng p q) (hN : tnN ng N) (hN64 : N ≤ 64) (ha : a < 8) (hb : b < 8) (hQ : ∀ r : Nat → Int32, Q (some (.int (kC ((tnS ng N).1 (8 * a + b))))) (hp nS (am_row M 233 r))) : am_Wp (d + 3) 280 29 [.ref 205, .int (nI a), .int (nI b), .retAddr 0, .retAddr 0, .retAddr 0] [] (hp nS M) Q := by
  have key : ∀ m s (r' : Nat → Int32) z, s + m = N → (∀ k, k < 64 → r' k = kM ((tnS ng s).1 k)) → am_Wp (d + 3) 280 68 [.ref 205, .int (nI a), .int (nI b), .int (bI (tnS ng s).2), .int (nI (s + 1)), z] [] (hp nS (am_row M 233 r')) Q := by
    intro m
    induction m with
    | zero =>
      intro s r' z hs hr'
      have : s = N := by omega
      subst this
      rw [b_280_68, if_pos (by rw [hN.2]; rfl), b_280_142 (by rw [mul8']; exact in_n (by omega) (by omega)), mul8', cl_n (by omega), row_same, hr' _ (by omega)]
      have hb' := tnS_b ng s (8 * a + b)
      have hq := hQ r'
      cases hk : (tnS ng s).1 (8 * a + b) with
      | none =>
        rw [hk] at hq
        rw [if_neg (fun z => z rfl), b_280_159, b_280_174]
        exact hq
      | some g =>
        rw [hk] at hq
        have := hb' g hk
        rw [if_pos (show ¬ kM (some g) = 100000000 by rw [kM, li, eq_n (by omega) (by omega)]; omega), b_280_163 (by rw [mul8']; exact in_n (by omega) (by omega)), mul8', cl_n (by omega), row_same, hr' _ (by omega), hk, b_280_174]
        exact hq
    | succ m ih =>
      intro s r' z hs hr'
      rw [b_280_68, if_neg (by rw [hN.1 s (by omega)]; decide), b_280_72]
      refine m_scan ng (tnS ng s).1 _ _ hn (kB_mono (tnS_b ng s) (by omega)) (by omega) (fun r2 hr2 => ?_) 64 0 r' (by omega) hr'
      rw [b_280_136, nI_1]
      have := ih (s + 1) r2 (.int 64) (by omega)
      rw [show tnS ng (s + 1) = scS ng (s + 1) (tnS ng s).1 64 from rfl] at this
      exact this hr2
  have key1 : ∀ m s (r' : Nat → Int32), s + m = 64 → (∀ k, k < s → r' k = kM (k0 k)) → am_Wp (d + 3) 280 31 [.ref 205, .int (nI a), .int (nI b), .int (nI s), .retAddr 0, .retAddr 0] [] (hp nS (am_row M 233 r')) Q := by
    intro m
    induction m with
    | zero =>
      intro s r' hs hr'
      have : s = 64 := by omega
      subst this
      rw [b_280_31, if_pos (by decide), b_280_63]
      exact key N 0 r' _ (by omega) hr'
    | succ m ih =>
      intro s r' hs hr'
      have er : nI s - nI s / 9 * 9 = nI (s % 9) := pk_rem (by omega) (by decide) (by decide)
      have e98 : (s % 9 = 0) = (s / 8 = s % 8) := (by decide : ∀ s, s < 64 → (s % 9 = 0) = (s / 8 = s % 8)) s (by omega)
      have step : ∀ v, v = kM (k0 s) → am_Wp (d + 3) 280 56 [.ref 205, .int (nI a), .int (nI b), .int (nI s), .retAddr 0, .retAddr 0] [.int v, .int (nI s), .ref 233] (hp nS (am_row M 233 r')) Q := by
        intro v hv
        rw [b_280_56 (by first | exact in_n (by omega) (by omega) | (simp only [li, nI_add, pk_mul]; exact in_n (by omega) (by omega))), cl_n (by omega), up_row, nI_1]
        refine ih (s + 1) _ (by omega) (fun k hk => ?_)
        rw [upd_at]
        by_cases e : k = s
        · rw [if_pos e, hv, e]
        · rw [if_neg e, hr' k (by omega)]
      rw [b_280_31, if_neg (by rw [li, le_n (by omega) (by omega)]; omega), b_280_37]
      by_cases e : s % 9 = 0
      · rw [if_neg (fun z => z (by rw [er, e]; rfl)), b_280_49]
        exact step 0 (by rw [k0_y (e98 ▸ e)]; rfl)
      · rw [if_pos (by rw [er, li, eq_n (by omega) (by omega)]; exact e), b_280_53]
        exact step 100000000 (by rw [k0_n (fun z => e (e98 ▸ z))]; rfl)
  rw [b_280_29, ← row_id M 233]
  exact key1 64 0 _ (by omega) (fun k hk => absurd hk (by omega))
end
