section
/-! THE HAWK AND THE LARK ON A HEATH: what is computed -/
def kLt (o : Option Nat) (t : Nat) : Bool := match o with
  | some g => decide (g < t)
  | none => false
/-- wherever the lark goes from l, caught before t by a hawk at h -/
def hpS (ng : Nat → Nat → Bool) (K : Nat → Option Nat) (t h l : Nat) : Nat → Bool
  | 0 => true
  | m + 1 => (!ng l (7 - m) || kLt (K (8 * h + (7 - m))) t) && hpS ng K t h l m
def ctS (ng : Nat → Nat → Bool) (K : Nat → Option Nat) (t h l : Nat) : Nat → Bool
  | 0 => false
  | m + 1 => (ng h (7 - m) && (decide (7 - m = l) || hpS ng K t (7 - m) l 8)) || ctS ng K t h l m
def scB (ng : Nat → Nat → Bool) (t s : Nat) (q : (Nat → Option Nat) × Bool) : (Nat → Option Nat) × Bool := if q.1 s = none ∧ ctS ng q.1 t (s / 8) (s % 8) 8 = true then (fun k => if k = s then some t else q.1 k, true) else q
def scS (ng : Nat → Nat → Bool) (t : Nat) (K : Nat → Option Nat) : Nat → (Nat → Option Nat) × Bool := itr (scB ng t) (K, false)
def k0 (s : Nat) : Option Nat := if s / 8 = s % 8 then some 0 else none
def tnS (ng : Nat → Nat → Bool) : Nat → (Nat → Option Nat) × Bool
  | 0 => (k0, true)
  | t + 1 => scS ng (t + 1) (tnS ng t).1 64
theorem scS_y {ng : Nat → Nat → Bool} {t : Nat} {K : Nat → Option Nat} {s : Nat} (h : (scS ng t K s).1 s = none ∧ ctS ng (scS ng t K s).1 t (s / 8) (s % 8) 8 = true) : scS ng t K (s + 1) = (fun k => if k = s then some t else (scS ng t K s).1 k, true) := if_pos h
theorem scS_n {ng : Nat → Nat → Bool} {t : Nat} {K : Nat → Option Nat} {s : Nat} (h : ¬ ((scS ng t K s).1 s = none ∧ ctS ng (scS ng t K s).1 t (s / 8) (s % 8) 8 = true)) : scS ng t K (s + 1) = scS ng t K s := if_neg h
def kB (K : Nat → Option Nat) (t : Nat) : Prop := ∀ s g, K s = some g → g ≤ t
theorem scS_b {ng : Nat → Nat → Bool} {t : Nat} {K : Nat → Option Nat} (h : kB K t) : ∀ n, kB (scS ng t K n).1 t
  | 0 => h
  | n + 1 => by
    have ih := scS_b (ng := ng) h n
    by_cases hc : (scS ng t K n).1 n = none ∧ ctS ng (scS ng t K n).1 t (n / 8) (n % 8) 8 = true
    · rw [scS_y hc]
      intro s g hs
      simp only at hs
      by_cases e : s = n
      · rw [if_pos e] at hs; cases hs; exact Nat.le_refl _
      · rw [if_neg e] at hs; exact ih s g hs
    · rw [scS_n hc]; exact ih
theorem tnS_b (ng : Nat → Nat → Bool) : ∀ t, kB (tnS ng t).1 t
  | 0 => by
    intro s g h
    have h' : (if s / 8 = s % 8 then some 0 else none) = some g := h
    split at h'
    · cases h'; exact Nat.le_refl _
    · cases h'
  | t + 1 => scS_b (fun s g h => Nat.le_succ_of_le (tnS_b ng t s g h)) 64
/-- how many aren't known -/
def nn (K : Nat → Option Nat) : Nat := sN (fun s => b2n (K s).isNone) 64
theorem scS_m {ng : Nat → Nat → Bool} {t : Nat} {K : Nat → Option Nat} : ∀ n, n ≤ 64 → nn (scS ng t K n).1 ≤ nn K ∧ ((scS ng t K n).2 = true → nn (scS ng t K n).1 < nn K)
  | 0, _ => ⟨Nat.le_refl _, fun h => absurd (show false = true from h) (by decide)⟩
  | n + 1, hn => by
    obtain ⟨h1, h2⟩ := scS_m (ng := ng) (t := t) (K := K) n (by omega)
    by_cases hc : (scS ng t K n).1 n = none ∧ ctS ng (scS ng t K n).1 t (n / 8) (n % 8) 8 = true
    · rw [scS_y hc]
      have : nn (fun k => if k = n then some t else (scS ng t K n).1 k) < nn (scS ng t K n).1 := by
        refine sN_lt _ _ n ?_ 64 (by omega) (fun k _ => ?_)
        · show b2n (Option.isNone (if n = n then some t else (scS ng t K n).1 n)) < b2n (Option.isNone ((scS ng t K n).1 n))
          rw [if_pos rfl, hc.1]; exact Nat.zero_lt_one
        · show b2n (Option.isNone (if k = n then some t else (scS ng t K n).1 k)) ≤ b2n (Option.isNone ((scS ng t K n).1 k))
          by_cases e : k = n
          · rw [if_pos e]; exact Nat.zero_le _
          · rw [if_neg e]; exact Nat.le_refl _
      exact ⟨by simp only; omega, fun _ => by simp only; omega⟩
    · rw [scS_n hc]; exact ⟨h1, h2⟩
theorem tnS_m (ng : Nat → Nat → Bool) : ∀ t, (∀ j, j ≤ t → (tnS ng j).2 = true) → nn (tnS ng t).1 + t ≤ 63
  | 0, _ => by
    have : nn k0 < sN (fun _ => 1) 64 := by
      refine sN_lt _ _ 0 (by decide) 64 (by omega) (fun k _ => ?_)
      have : ∀ b, b2n b ≤ 1 := by decide
      exact this _
    have e : sN (fun _ => 1) 64 = 64 := by decide
    show nn k0 + 0 ≤ 63
    omega
  | t + 1, h => by
    have ih := tnS_m ng t (fun j hj => h j (by omega))
    have h2 : (scS ng (t + 1) (tnS ng t).1 64).2 = true := h (t + 1) (by omega)
    have := (scS_m (ng := ng) (t := t + 1) (K := (tnS ng t).1) 64 (by omega)).2 h2
    show nn (scS ng (t + 1) (tnS ng t).1 64).1 + (t + 1) ≤ 63
    omega
/-- the turn in which nothing more is learned -/
def tnN (ng : Nat → Nat → Bool) (N : Nat) : Prop := (∀ j, j < N → (tnS ng j).2 = true) ∧ (tnS ng N).2 = false
theorem tnN_ex (ng : Nat → Nat → Bool) : ∃ N, N ≤ 64 ∧ tnN ng N := by
  have : ∀ m t, t + m = 64 → (∀ j, j < t → (tnS ng j).2 = true) → ∃ N, N ≤ 64 ∧ tnN ng N := by
    intro m
    induction m with
    | zero =>
      intro t ht h
      have := tnS_m ng 63 (fun j hj => h j (by omega))
      cases e : (tnS ng t).2 with
      | false => exact ⟨t, by omega, h, e⟩
      | true =>
        have := tnS_m ng t (fun j hj => by
          by_cases hj' : j = t
          · subst hj'; exact e
          · exact h j (by omega))
        omega
    | succ m ih =>
      intro t ht h
      cases e : (tnS ng t).2 with
      | false => exact ⟨t, by omega, h, e⟩
      | true =>
        refine ih (t + 1) (by omega) (fun j hj => ?_)
        by_cases hj' : j = t
        · subst hj'; exact e
        · exact h j (by omega)
  exact this 64 0 (by omega) (fun j hj => absurd hj (by omega))
theorem bI_and (b : Bool) : bI (true && b) = bI b := by cases b <;> rfl
/-! the class -/
def kC (o : Option Nat) : Int32 := match o with
  | some g => nI g
  | none => -1
theorem kC_m1 {o : Option Nat} {t : Nat} (h : ∀ g, o = some g → g ≤ t) (ht : t ≤ 1000) : (kC o = -1) = (o = none) := by
  refine propext ⟨fun e => ?_, fun e => by rw [e]; rfl⟩
  cases o with
  | none => rfl
  | some g => exact absurd e (nI_m1 (by have := h g rfl; omega))
theorem mul8 (a b : Nat) : nI a * 8 + nI b = nI (8 * a + b) := by
  have : nI a * 8 = nI (8 * a) := by rw [Nat.mul_comm]; exact pk_mul a 8
  rw [this, nI_add]
theorem mul8' (a b : Nat) : (8 : Int32) * nI a + nI b = nI (8 * a + b) := by
  have : (8 : Int32) * nI a = nI (8 * a) := pk_mul 8 a
  rw [this, nI_add]
theorem x_hop {d nS t h l : Nat} {M : am_M} {Q : Option Value → am_H → Prop} (ng : Nat → Nat → Bool) (K : Nat → Option Nat) (hn : ∀ p q, p < 8 → q < 8 → bt (M 52 p) q = ng p q) (hK : ∀ s, s < 64 → M 53 s = kC (K s)) (hB : kB K t) (ht : t ≤ 100) (hh : h < 8) (hl : l < 8) : am_Wp d 17 0 [.ref 50, .int (nI h), .int (nI l), .int (nI t), .retAddr 0, .retAddr 0] [] (hp nS M) Q = Q (some (.int (bI (hpS ng K t h l 8)))) (hp nS M) := by
  have key : ∀ m z, m ≤ 8 → am_Wp d 17 3 [.ref 50, .int (nI h), .int (nI l), .int (nI t), .int (nI (8 - m)), z] [] (hp nS M) Q = Q (some (.int (bI (hpS ng K t h l m)))) (hp nS M) := by
    intro m
    induction m with
    | zero => intro z _; rw [b_17_3, if_pos (by decide), b_17_59]; rfl
    | succ m ih =>
      intro z hm
      have e7 : 8 - (m + 1) = 7 - m := by omega
      have e8 : 7 - m + 1 = 8 - m := by omega
      have eh : hpS ng K t h l (m + 1) = ((!ng l (7 - m) || kLt (K (8 * h + (7 - m))) t) && hpS ng K t h l m) := rfl
      rw [e7, b_17_3, if_neg (by rw [li, le_n (by omega) (by omega)]; omega), b_17_10 (by rw [mul8]; exact in_n (by omega) (by omega)) (by first | exact in_n (by omega) (by omega) | (simp only [li, nI_add, pk_mul]; exact in_n (by omega) (by omega))), mul8, cl_n (by omega), cl_n (by omega), hK _ (by omega)]
      have cont : ∀ x5 : Int32, am_Wp d 17 53 [.ref 50, .int (nI h), .int (nI l), .int (nI t), .int (nI (7 - m)), .int x5] [] (hp nS M) Q = Q (some (.int (bI (hpS ng K t h l m)))) (hp nS M) := by
        intro x5
        rw [b_17_53, nI_1, e8]
        exact ih _ (by omega)
      by_cases hg : ng l (7 - m) = true
      · rw [if_neg (fun z => z (by rw [bit_get (by omega), hn l (7 - m) hl (by omega)]; exact hg)), b_17_39]
        cases hk : K (8 * h + (7 - m)) with
        | none =>
          rw [if_pos (show kC none = -1 from rfl), b_17_51, eh, hg, hk]; rfl
        | some g =>
          have hg' := hB _ g hk
          rw [if_neg (show ¬ kC (some g) = -1 from nI_m1 (by omega)), b_17_45]
          by_cases hlt : g < t
          · rw [if_pos (show kC (some g) < nI t by rw [kC, lt_n (by omega) (by omega)]; exact hlt), cont, eh, hk]
            have : kLt (some g) t = true := decide_eq_true hlt
            rw [this, Bool.or_true, Bool.true_and]
          · rw [if_neg (show ¬ kC (some g) < nI t by rw [kC, lt_n (by omega) (by omega)]; exact hlt), b_17_51, eh, hk, hg]
            have : kLt (some g) t = false := decide_eq_false hlt
            rw [this]; rfl
      · rw [if_pos (by rw [bit_get (by omega), hn l (7 - m) hl (by omega)]; exact hg), cont, eh]
        have : ng l (7 - m) = false := by cases h : ng l (7 - m) <;> simp_all
        rw [this]
        rfl
  rw [b_17_0]
  exact key 8 _ (by omega)
theorem x_cat {d nS t h l : Nat} {M : am_M} {Q : Option Value → am_H → Prop} (ng : Nat → Nat → Bool) (K : Nat → Option Nat) (hn : ∀ p q, p < 8 → q < 8 → bt (M 52 p) q = ng p q) (hK : ∀ s, s < 64 → M 53 s = kC (K s)) (hB : kB K t) (ht : t ≤ 100) (hh : h < 8) (hl : l < 8) : am_Wp (d + 1) 16 0 [.ref 50, .int (nI h), .int (nI l), .int (nI t), .retAddr 0] [] (hp nS M) Q = Q (some (.int (bI (ctS ng K t h l 8)))) (hp nS M) := by
  have key : ∀ m, m ≤ 8 → am_Wp (d + 1) 16 3 [.ref 50, .int (nI h), .int (nI l), .int (nI t), .int (nI (8 - m))] [] (hp nS M) Q = Q (some (.int (bI (ctS ng K t h l m)))) (hp nS M) := by
    intro m
    induction m with
    | zero => intro _; rw [b_16_3, if_pos (by decide), b_16_50]; rfl
    | succ m ih =>
      intro hm
      have e7 : 8 - (m + 1) = 7 - m := by omega
      have e8 : 7 - m + 1 = 8 - m := by omega
      have eh : ctS ng K t h l (m + 1) = ((ng h (7 - m) && (decide (7 - m = l) || hpS ng K t (7 - m) l 8)) || ctS ng K t h l m) := rfl
      rw [e7, b_16_3, if_neg (by rw [li, le_n (by omega) (by omega)]; omega), b_16_10 (by first | exact in_n (by omega) (by omega) | (simp only [li, nI_add, pk_mul]; exact in_n (by omega) (by omega))), cl_n (by omega)]
      have cont : am_Wp (d + 1) 16 44 [.ref 50, .int (nI h), .int (nI l), .int (nI t), .int (nI (7 - m))] [] (hp nS M) Q = Q (some (.int (bI (ctS ng K t h l m)))) (hp nS M) := by
        rw [b_16_44, nI_1, e8]
        exact ih (by omega)
      by_cases hg : ng h (7 - m) = true
      · rw [if_neg (fun z => z (by rw [bit_get (by omega), hn h (7 - m) hh (by omega)]; exact hg)), b_16_25]
        by_cases he : 7 - m = l
        · rw [if_pos (by rw [he]), b_16_42, eh, hg, decide_eq_true he]; rfl
        · rw [if_neg (by rw [eq_n (by omega) (by omega)]; exact he), b_16_31, x_hop ng K hn hK hB ht (by omega) hl, am_ans_some, b_16_39, eh, hg, decide_eq_false he]
          cases hx : hpS ng K t (7 - m) l 8 with
          | false => rw [if_pos (by decide), cont]; rfl
          | true => rw [if_neg (by decide), b_16_42]; rfl
      · rw [if_pos (by rw [bit_get (by omega), hn h (7 - m) hh (by omega)]; exact hg), cont, eh]
        have : ng h (7 - m) = false := by cases h : ng h (7 - m) <;> simp_all
        rw [this]
        rfl
  rw [b_16_0]
  exact key 8 (by omega)
theorem up_kC (r : Nat → Int32) (K : Nat → Option Nat) (s t : Nat) (h : ∀ k, k < 64 → r k = kC (K k)) : ∀ k, k < 64 → upd r s (nI t) k = kC (if k = s then some t else K k) := by
  intro k hk
  rw [upd_at]
  by_cases e : k = s
  · rw [if_pos e, if_pos e]; rfl
  · rw [if_neg e, if_neg e, h k hk]
theorem rokI (b : Bool) : am_rok .boolean (bI b) = true := by cases b <;> rfl
theorem x_learns {d nS t : Nat} {M : am_M} {Q : Option Value → am_H → Prop} (ng : Nat → Nat → Bool) (K : Nat → Option Nat) (r : Nat → Int32) (hn : ∀ p q, p < 8 → q < 8 → bt (M 52 p) q = ng p q) (hK : ∀ s, s < 64 → r s = kC (K s)) (hB : kB K t) (ht : t ≤ 100) (hQ : ∀ r' : Nat → Int32, (∀ s, s < 64 → r' s = kC ((scS ng t K 64).1 s)) → Q (some (.int (bI (scS ng t K 64).2))) (hp nS (am_row M 53 r'))) : am_Wp (d + 2) 15 0 [.ref 50, .int (nI t), .retAddr 0, .retAddr 0] [] (hp nS (am_row M 53 r)) Q := by
  have key : ∀ m s r, s + m = 64 → (∀ k, k < 64 → r k = kC ((scS ng t K s).1 k)) → am_Wp (d + 2) 15 4 [.ref 50, .int (nI t), .int (bI (scS ng t K s).2), .int (nI s)] [] (hp nS (am_row M 53 r)) Q := by
    intro m
    induction m with
    | zero =>
      intro s r hs hr
      have : s = 64 := by omega
      subst this
      rw [b_15_4, if_pos (by decide), b_15_51 (rokI _)]
      exact hQ r hr
    | succ m ih =>
      intro s r hs hr
      have hB' := scS_b (ng := ng) hB s
      have ed : nI s / 8 = nI (s / 8) := pk_div (by omega) (by decide) (by decide)
      have er : nI s - nI s / 8 * 8 = nI (s % 8) := pk_rem (by omega) (by decide) (by decide)
      rw [b_15_4, if_neg (by rw [li, le_n (by omega) (by omega)]; omega), b_15_10 (by first | exact in_n (by omega) (by omega) | (simp only [li, nI_add, pk_mul]; exact in_n (by omega) (by omega))), cl_n (by omega), row_same, hr s (by omega)]
      by_cases h1 : (scS ng t K s).1 s = none
      · rw [if_neg (fun z => z (by rw [kC_m1 (hB' s) (by omega)]; exact h1)), b_15_20, er, ed, x_cat ng (scS ng t K s).1 (fun p q hp hq => by rw [row_ne _ _ (by decide)]; exact hn p q hp hq) (fun k hk => by rw [row_same]; exact hr k hk) hB' ht (by omega) (by omega), am_ans_some, b_15_33]
        cases h2 : ctS ng (scS ng t K s).1 t (s / 8) (s % 8) 8 with
        | true =>
          rw [if_neg (by decide), b_15_36 (by first | exact in_n (by omega) (by omega) | (simp only [li, nI_add, pk_mul]; exact in_n (by omega) (by omega))), b_15_45, cl_n (by omega), up_row, nI_1]
          have e := scS_y (ng := ng) ⟨h1, h2⟩
          have := ih (s + 1) (upd r s (nI t)) (by omega)
          rw [e] at this
          exact this (up_kC r _ s t hr)
        | false =>
          rw [if_pos (by decide), b_15_45, nI_1]
          have e := scS_n (ng := ng) (t := t) (K := K) (s := s) (fun z => by rw [h2] at z; exact absurd z.2 (by decide))
          have := ih (s + 1) r (by omega)
          rw [e] at this
          exact this hr
      · rw [if_pos (by rw [kC_m1 (hB' s) (by omega)]; exact h1), b_15_45, nI_1]
        have e := scS_n (ng := ng) (t := t) (K := K) (s := s) (fun z => h1 z.1)
        have := ih (s + 1) r (by omega)
        rw [e] at this
        exact this hr
  rw [b_15_0]
  exact key 64 0 r (by omega) hK
end
