/-! THE ROW OF PRICES: what lies in the midst -/
theorem sN_le (f g : Nat → Nat) : ∀ n, (∀ k, k < n → f k ≤ g k) → sN f n ≤ sN g n
  | 0, _ => Nat.le_refl _
  | n + 1, h => by
    have h1 := sN_le f g n (fun k hk => h k (by omega))
    have h2 := h n (by omega)
    show sN f n + f n ≤ sN g n + g n
    omega
theorem sN_lt (f g : Nat → Nat) (k0 : Nat) (hk : f k0 < g k0) : ∀ n, k0 < n → (∀ k, k < n → f k ≤ g k) → sN f n < sN g n
  | 0, h0, _ => absurd h0 (by omega)
  | n + 1, h0, h => by
    have h2 := h n (by omega)
    show sN f n + f n < sN g n + g n
    by_cases hn : k0 = n
    · subst hn
      have h1 := sN_le f g k0 (fun k hk => h k (by omega))
      omega
    · have h1 := sN_lt f g k0 hk n (by omega) (fun k hk => h k (by omega))
      omega
theorem sN_cut (f : Nat → Nat) (i : Nat) : ∀ n, i ≤ n → sN (fun k => if k < i then f k else 0) n = sN f i
  | 0, h => by
    have : i = 0 := by omega
    subst this
    rfl
  | n + 1, h => by
    show sN (fun k => if k < i then f k else 0) n + (if n < i then f n else 0) = sN f i
    by_cases hn : i = n + 1
    · subst hn
      rw [if_pos (by omega)]
      have := sN_congr (fun k => if k < n + 1 then f k else 0) f n (fun k hk => by show (if k < n + 1 then f k else 0) = f k; rw [if_pos (by omega)])
      rw [this]
      rfl
    · rw [if_neg (by omega), sN_cut f i n (by omega)]
      rfl
def cL (q : Nat → Nat) (c x : Nat) : Nat := sN (fun k => b2n (decide (q k < x))) c
def cE (q : Nat → Nat) (c x : Nat) : Nat := sN (fun k => b2n (decide (q k ≤ x))) c
def midP (q : Nat → Nat) (c v : Nat) : Prop := cL q c v ≤ (c - 1) / 2 ∧ (c - 1) / 2 < cE q c v
theorem b2n_le {a b : Prop} [Decidable a] [Decidable b] (h : a → b) : b2n (decide a) ≤ b2n (decide b) := by
  by_cases ha : a
  · rw [decide_eq_true ha, decide_eq_true (h ha)]; exact Nat.le_refl _
  · rw [decide_eq_false ha]; exact Nat.zero_le _
theorem mid_uniq {q : Nat → Nat} {c x y : Nat} (hx : midP q c x) (hy : midP q c y) : x = y := by
  have key : ∀ a b, a < b → cE q c a ≤ cL q c b := fun a b hab => sN_le _ _ c (fun k _ => b2n_le (fun h => by omega))
  rcases Nat.lt_trichotomy x y with h | h | h
  · have := key x y h
    have := hx.2; have := hy.1; omega
  · exact h
  · have := key y x h
    have := hy.2; have := hx.1; omega
def rk (q : Nat → Nat) (c i : Nat) : Nat := sN (fun k => b2n (decide (q k < q i ∨ (q k = q i ∧ k < i)))) c
theorem rk_mid {q : Nat → Nat} {c i : Nat} (hi : i < c) (h : rk q c i = (c - 1) / 2) : midP q c (q i) := by
  refine ⟨?_, ?_⟩
  · rw [← h]; exact sN_le _ _ c (fun k _ => b2n_le (fun h => Or.inl h))
  · rw [← h]
    refine sN_lt _ _ i ?_ c hi (fun k _ => b2n_le (fun h => by omega))
    show b2n (decide (q i < q i ∨ (q i = q i ∧ i < i))) < b2n (decide (q i ≤ q i))
    rw [decide_eq_false (by omega), decide_eq_true (Nat.le_refl _)]
    decide
theorem rk_ivt (q : Nat → Nat) (v t : Nat) : ∀ c, t < sN (fun k => b2n (decide (q k = v))) c → ∃ i, i < c ∧ q i = v ∧ sN (fun k => b2n (decide (q k = v))) i = t
  | 0, h => absurd h (Nat.not_lt_zero _)
  | c + 1, h => by
    by_cases h1 : t < sN (fun k => b2n (decide (q k = v))) c
    · obtain ⟨i, hi, h2, h3⟩ := rk_ivt q v t c h1
      exact ⟨i, by omega, h2, h3⟩
    · have h' : t < sN (fun k => b2n (decide (q k = v))) c + b2n (decide (q c = v)) := h
      by_cases h2 : q c = v
      · rw [decide_eq_true h2] at h'
        have h'' : t < sN (fun k => b2n (decide (q k = v))) c + 1 := h'
        exact ⟨c, by omega, h2, by omega⟩
      · rw [decide_eq_false h2] at h'
        have h'' : t < sN (fun k => b2n (decide (q k = v))) c + 0 := h'
        omega
theorem mid_rk {q : Nat → Nat} {c v : Nat} (h : midP q c v) : ∃ i, i < c ∧ q i = v ∧ rk q c i = (c - 1) / 2 := by
  have e1 : cE q c v = cL q c v + sN (fun k => b2n (decide (q k = v))) c := by
    unfold cE cL
    rw [← sN_add]
    refine sN_congr _ _ c (fun k _ => ?_)
    rcases Nat.lt_trichotomy (q k) v with h | h | h
    · rw [decide_eq_true (show q k ≤ v by omega), decide_eq_true h, decide_eq_false (show ¬ q k = v by omega)]; rfl
    · rw [decide_eq_true (show q k ≤ v by omega), decide_eq_false (show ¬ q k < v by omega), decide_eq_true h]; rfl
    · rw [decide_eq_false (show ¬ q k ≤ v by omega), decide_eq_false (show ¬ q k < v by omega), decide_eq_false (show ¬ q k = v by omega)]; rfl
  obtain ⟨h1, h2⟩ := h
  obtain ⟨i, hi, hv, ht⟩ := rk_ivt q v ((c - 1) / 2 - cL q c v) c (by omega)
  refine ⟨i, hi, hv, ?_⟩
  have e2 : rk q c i = cL q c v + sN (fun k => if k < i then b2n (decide (q k = v)) else 0) c := by
    unfold rk cL
    rw [← sN_add]
    refine sN_congr _ _ c (fun k _ => ?_)
    rw [hv]
    by_cases hk : k < i
    · rw [if_pos hk]
      rcases Nat.lt_trichotomy (q k) v with h | h | h
      · rw [decide_eq_true (Or.inl h), decide_eq_true h, decide_eq_false (show ¬ q k = v by omega)]; rfl
      · rw [decide_eq_true (Or.inr ⟨h, hk⟩), decide_eq_false (show ¬ q k < v by omega), decide_eq_true h]; rfl
      · rw [decide_eq_false (by omega), decide_eq_false (show ¬ q k < v by omega), decide_eq_false (show ¬ q k = v by omega)]; rfl
    · rw [if_neg hk]
      by_cases h : q k < v
      · rw [decide_eq_true (Or.inl h), decide_eq_true h]; rfl
      · rw [decide_eq_false (by omega), decide_eq_false h]; rfl
  rw [e2, sN_cut _ i c (by omega), ht]
  omega
/-- the reference's -/
theorem m_midst {d nS c v : Nat} {M : am_M} {Q : Option Value → am_H → Prop} (q : Nat → Nat) (hq : ∀ k, k < c → M 227 k = nI (q k)) (hb : ∀ k, q k ≤ 99) (hc : M 205 45 = nI c) (h14 : c ≤ 14) (hv : midP q c v) : am_Wp d 262 0 [.ref 205, .retAddr 0, .retAddr 0, .retAddr 0] [] (hp nS M) Q = Q (some (.int (nI v))) (hp nS M) := by
  obtain ⟨i0, hi0, -, hr0⟩ := mid_rk hv
  have hrk : ∀ i, rk q c i ≤ c := by
    intro i
    have : ∀ n, sN (fun k => b2n (decide (q k < q i ∨ (q k = q i ∧ k < i)))) n ≤ n := by
      intro n
      induction n with
      | zero => exact Nat.le_refl _
      | succ n ih =>
        show _ + b2n _ ≤ _
        have : ∀ b, b2n b ≤ 1 := by decide
        have := this (decide (q n < q i ∨ (q n = q i ∧ n < i)))
        omega
    exact this c
  have ediv : (nI c - 1) / 2 = nI ((c - 1) / 2) := by
    rw [sub1 (by omega)]
    exact pk_div (by omega) (by decide) (by decide)
  rw [b_262_0]
  -- from i on, while none ahead of i has that rank
  have main : ∀ m i z2 z3, i + m = c → i ≤ i0 → am_Wp d 262 2 [.ref 205, .int (nI i), z2, z3] [] (hp nS M) Q = Q (some (.int (nI v))) (hp nS M) := by
    intro m
    induction m with
    | zero => intro i z2 z3 h1 h2; omega
    | succ m ih =>
      intro i z2 z3 h1 h2
      rw [b_262_2, hc, if_neg (by rw [le_n (by omega) (by omega)]; omega), b_262_10]
      refine l_up c (fun k => am_Wp d 262 14 [.ref 205, .int (nI i), .int (nI (sN (fun k => b2n (decide (q k < q i ∨ (q k = q i ∧ k < i)))) k)), .int (nI k)] [] (hp nS M) Q = Q (some (.int (nI v))) (hp nS M)) ?_ (fun k hk ih2 => ?_)
      · have hbd := hrk i
        rw [b_262_14, hc, if_pos (by rw [le_n (by omega) (by omega)]; omega), b_262_67, hc, ediv]
        show (if ¬ nI (rk q c i) = nI ((c - 1) / 2) then _ else _) = _
        by_cases hr : rk q c i = (c - 1) / 2
        · rw [if_neg (fun z => z (by rw [hr])), b_262_79 (by first | exact in_n (by omega) (by omega) | (simp only [li, nI_add, pk_mul]; exact in_n (by omega) (by omega))), cl_n (by omega), hq i (by omega), mid_uniq (rk_mid (by omega) hr) hv]
        · rw [if_pos (by rw [eq_n (by omega) (by omega)]; exact hr), b_262_86, nI_1]
          refine ih (i + 1) _ _ (by omega) ?_
          rcases Nat.lt_or_ge i i0 with h | h
          · omega
          · have : i = i0 := by omega
            subst this
            exact absurd hr0 hr
      · have hb1 := hb i
        have hb2 := hb k
        rw [b_262_14, hc, if_neg (by rw [le_n (by omega) (by omega)]; omega), b_262_22 (by first | exact in_n (by omega) (by omega) | (simp only [li, nI_add, pk_mul]; exact in_n (by omega) (by omega))) (by first | exact in_n (by omega) (by omega) | (simp only [li, nI_add, pk_mul]; exact in_n (by omega) (by omega))), cl_n (by omega), cl_n (by omega), hq k hk, hq i (by omega)]
        have es : sN (fun k => b2n (decide (q k < q i ∨ (q k = q i ∧ k < i)))) (k + 1) = sN (fun k => b2n (decide (q k < q i ∨ (q k = q i ∧ k < i)))) k + b2n (decide (q k < q i ∨ (q k = q i ∧ k < i))) := rfl
        rw [es] at ih2
        by_cases hl : q k < q i
        · rw [if_pos (by rw [lt_n (by omega) (by omega)]; omega), b_262_57, b_262_61, nI_1, nI_1]
          rw [decide_eq_true (Or.inl hl)] at ih2
          exact ih2
        · rw [if_neg (by rw [lt_n (by omega) (by omega)]; omega), b_262_37 (by first | exact in_n (by omega) (by omega) | (simp only [li, nI_add, pk_mul]; exact in_n (by omega) (by omega))) (by first | exact in_n (by omega) (by omega) | (simp only [li, nI_add, pk_mul]; exact in_n (by omega) (by omega))), cl_n (by omega), cl_n (by omega), hq k hk, hq i (by omega)]
          by_cases he : q k = q i
          · rw [if_neg (by rw [he]; exact fun z => z rfl), b_262_52]
            by_cases hki : k < i
            · rw [if_neg (by rw [le_n (by omega) (by omega)]; omega), b_262_57, b_262_61, nI_1, nI_1]
              rw [decide_eq_true (Or.inr ⟨he, hki⟩)] at ih2
              exact ih2
            · rw [if_pos (by rw [le_n (by omega) (by omega)]; omega), b_262_61, nI_1]
              rw [decide_eq_false (by omega)] at ih2
              exact ih2
          · rw [if_pos (by rw [eq_n (by omega) (by omega)]; exact he), b_262_61, nI_1]
            rw [decide_eq_false (by omega)] at ih2
            exact ih2
  exact main c 0 _ _ (by omega) (by omega)
/-- the class sorts -/
def insF (f : Nat → Nat) (h i k : Nat) : Nat := if k < h then f k else if k = h then f i else if k ≤ i then f (k - 1) else f k
def shF (f : Nat → Nat) (h i k : Nat) : Nat := if k ≤ h then f k else if k ≤ i then f (k - 1) else f k
theorem ins_cnt (φ : Nat → Nat) (f : Nat → Nat) {h i c : Nat} (hi : h ≤ i) (hc : i < c) : sN (fun k => φ (insF f h i k)) c = sN (fun k => φ (f k)) c := by
  have e1 : ∀ n, n ≤ h → sN (fun k => φ (insF f h i k)) n = sN (fun k => φ (f k)) n := fun n hn => sN_congr _ _ n (fun k hk => by show φ (insF f h i k) = φ (f k); unfold insF; rw [if_pos (by omega)])
  have e2 : ∀ m, h + m ≤ i → sN (fun k => φ (insF f h i k)) (h + m + 1) = sN (fun k => φ (f k)) (h + m) + φ (f i) := by
    intro m
    induction m with
    | zero =>
      intro _
      show sN (fun k => φ (insF f h i k)) h + φ (insF f h i h) = _
      rw [e1 h (Nat.le_refl _)]
      unfold insF
      rw [if_neg (by omega), if_pos rfl]
      rfl
    | succ m ih =>
      intro hm
      show sN (fun k => φ (insF f h i k)) (h + m + 1) + φ (insF f h i (h + m + 1)) = sN (fun k => φ (f k)) (h + m) + φ (f (h + m)) + φ (f i)
      rw [ih (by omega)]
      have : insF f h i (h + m + 1) = f (h + m) := by
        unfold insF
        rw [if_neg (by omega), if_neg (by omega), if_pos (by omega)]
        congr 1
      rw [this]
      omega
  have e3 : ∀ m, sN (fun k => φ (insF f h i k)) (i + 1 + m) = sN (fun k => φ (f k)) (i + 1 + m) := by
    intro m
    induction m with
    | zero =>
      have := e2 (i - h) (by omega)
      rw [show h + (i - h) = i by omega] at this
      exact this
    | succ m ih =>
      show sN (fun k => φ (insF f h i k)) (i + 1 + m) + φ (insF f h i (i + 1 + m)) = sN (fun k => φ (f k)) (i + 1 + m) + φ (f (i + 1 + m))
      rw [ih]
      have : insF f h i (i + 1 + m) = f (i + 1 + m) := by
        unfold insF
        rw [if_neg (by omega), if_neg (by omega), if_neg (by omega)]
      rw [this]
  have := e3 (c - (i + 1))
  rw [show i + 1 + (c - (i + 1)) = c by omega] at this
  exact this
def sorted (f : Nat → Nat) (n : Nat) : Prop := ∀ a b, a < b → b < n → f a ≤ f b
theorem ins_sorted {f : Nat → Nat} {h i : Nat} (hi : h ≤ i) (hs : sorted f i) (h1 : ∀ j, h ≤ j → j < i → f i < f j) (h2 : h = 0 ∨ f (h - 1) ≤ f i) : sorted (insF f h i) (i + 1) := by
  intro a b hab hb
  have h3 : ∀ j, j < h → f j ≤ f i := by
    intro j hj
    rcases h2 with h2 | h2
    · omega
    · by_cases hj' : j = h - 1
      · subst hj'; exact h2
      · exact Nat.le_trans (hs j (h - 1) (by omega) (by omega)) h2
  unfold insF
  by_cases a1 : a < h
  · rw [if_pos a1]
    by_cases b1 : b < h
    · rw [if_pos b1]; exact hs a b hab (by omega)
    · rw [if_neg b1]
      by_cases b2 : b = h
      · rw [if_pos b2]; exact h3 a a1
      · rw [if_neg b2, if_pos (by omega)]
        exact hs a (b - 1) (by omega) (by omega)
  · rw [if_neg a1, if_neg (show ¬ b < h by omega), if_neg (show ¬ b = h by omega), if_pos (show b ≤ i by omega)]
    by_cases a2 : a = h
    · rw [if_pos a2]
      exact Nat.le_of_lt (h1 (b - 1) (by omega) (by omega))
    · rw [if_neg a2, if_pos (by omega)]
      exact hs (a - 1) (b - 1) (by omega) (by omega)
theorem sorted_mid {q g : Nat → Nat} {c : Nat} (h0 : 0 < c) (hs : sorted g c) (hc : ∀ φ : Nat → Nat, sN (fun k => φ (g k)) c = sN (fun k => φ (q k)) c) : midP q c (g ((c - 1) / 2)) := by
  have e1 : cL q c (g ((c - 1) / 2)) = cL g c (g ((c - 1) / 2)) := (hc (fun y => b2n (decide (y < g ((c - 1) / 2))))).symm
  have e2 : cE q c (g ((c - 1) / 2)) = cE g c (g ((c - 1) / 2)) := (hc (fun y => b2n (decide (y ≤ g ((c - 1) / 2))))).symm
  have one : ∀ n, sN (fun _ => 1) n = n := by
    intro n
    induction n with
    | zero => rfl
    | succ n ih => show sN (fun _ => 1) n + 1 = n + 1; rw [ih]
  unfold midP
  rw [e1, e2]
  refine ⟨?_, ?_⟩
  · have : cL g c (g ((c - 1) / 2)) ≤ sN (fun k => if k < (c - 1) / 2 then 1 else 0) c := by
      refine sN_le _ _ c (fun k hk => ?_)
      show b2n (decide (g k < g ((c - 1) / 2))) ≤ if k < (c - 1) / 2 then 1 else 0
      by_cases h : k < (c - 1) / 2
      · rw [if_pos h]
        have : ∀ b, b2n b ≤ 1 := by decide
        exact this _
      · rw [if_neg h, decide_eq_false]
        · exact Nat.le_refl _
        · intro z
          by_cases hk' : k = (c - 1) / 2
          · subst hk'; omega
          · have := hs ((c - 1) / 2) k (by omega) hk; omega
    rw [sN_cut (fun _ => 1) ((c - 1) / 2) c (by omega), one] at this
    exact this
  · have : sN (fun k => if k < (c - 1) / 2 + 1 then 1 else 0) c ≤ cE g c (g ((c - 1) / 2)) := by
      refine sN_le _ _ c (fun k hk => ?_)
      show (if k < (c - 1) / 2 + 1 then 1 else 0) ≤ b2n (decide (g k ≤ g ((c - 1) / 2)))
      by_cases h : k < (c - 1) / 2 + 1
      · rw [if_pos h, decide_eq_true]
        · exact Nat.le_refl _
        · by_cases hk' : k = (c - 1) / 2
          · subst hk'; exact Nat.le_refl _
          · exact hs k ((c - 1) / 2) (by omega) (by omega)
      · rw [if_neg h]; exact Nat.zero_le _
    rw [sN_cut (fun _ => 1) ((c - 1) / 2 + 1) c (by omega), one] at this
    omega
