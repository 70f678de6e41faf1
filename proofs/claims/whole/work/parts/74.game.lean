section
/-! THE GAME OF A LARK AND A HAWK -/
def gS (w : Nat → Nat → Bool) (s k h last : Nat) : Nat → Option Nat
  | 0 => none
  | m + 1 => if h + (k - m) < s then (if ¬ k - m = last ∧ w (h + (k - m)) (k - m) = false then some (k - m) else gS w s k h last m) else none
def oI (o : Option Nat) : Int32 := match o with
  | some g => nI g
  | none => -1
theorem gS_congr {w w' : Nat → Nat → Bool} {s k h last : Nat} (hw : ∀ a l, h < a → a < s → w a l = w' a l) : ∀ m, m ≤ k → gS w s k h last m = gS w' s k h last m
  | 0, _ => rfl
  | m + 1, hm => by
    rw [gS, gS, gS_congr hw m (by omega)]
    by_cases h1 : h + (k - m) < s
    · rw [if_pos h1, if_pos h1, hw _ _ (by omega) h1]
    · rw [if_neg h1, if_neg h1]
def gmT (w : Nat → Nat → Bool) (s k : Nat) : Prop := ∀ a l, a < s → w a l = (gS w s k a l k).isSome
theorem gm_ex (s k : Nat) : ∃ w, gmT w s k := by
  have : ∀ j, j ≤ s → ∃ w : Nat → Nat → Bool, ∀ a l, s - j ≤ a → a < s → w a l = (gS w s k a l k).isSome := by
    intro j
    induction j with
    | zero => intro _; exact ⟨fun _ _ => false, fun a l h1 h2 => by omega⟩
    | succ j ih =>
      intro hj
      obtain ⟨w, hw⟩ := ih (by omega)
      refine ⟨fun a l => if a = s - (j + 1) then (gS w s k a l k).isSome else w a l, fun a l h1 h2 => ?_⟩
      have hc : gS (fun a l => if a = s - (j + 1) then (gS w s k a l k).isSome else w a l) s k a l k = gS w s k a l k := by
        refine gS_congr (fun a' l' h3 h4 => ?_) k (Nat.le_refl _)
        show (if a' = s - (j + 1) then (gS w s k a' l' k).isSome else w a' l') = w a' l'
        rw [if_neg (by omega)]
      rw [hc]
      show (if a = s - (j + 1) then (gS w s k a l k).isSome else w a l) = _
      by_cases e : a = s - (j + 1)
      · rw [if_pos e]
      · rw [if_neg e]
        exact hw a l (by omega) h2
  obtain ⟨w, hw⟩ := this s (Nat.le_refl _)
  exact ⟨w, fun a l h => hw a l (by omega) h⟩
theorem bit_0 (x : Int32) {n : Nat} (hn : n < 32) : (((x >>> (nI n &&& 31)) &&& 1) = 0) = (bt x n = false) := by
  have h2 := bit_get hn x
  refine propext ⟨fun h => ?_, fun h => ?_⟩
  · rw [h] at h2
    cases hx : bt x n with
    | false => rfl
    | true => exact absurd (h2.mpr hx) (by decide)
  · rcases bit_01 (x >>> (nI n &&& 31)) with h3 | h3
    · exact h3
    · have := h2.mp h3
      rw [h] at this
      cases this
theorem x_send {d nS s k h last : Nat} {M : am_M} {Q : Option Value → am_H → Prop} (w : Nat → Nat → Bool) (hw : ∀ a l, h < a → a < s → 1 ≤ l → l ≤ k → bt (M 204 a) l = w a l) (hs : s ≤ 100) (hk : k ≤ 9) (hh : h < s) (hl : last ≤ 9) : am_Wp d 90 0 [.ref 202, .int (nI h), .int (nI s), .int (nI k), .int (nI last), .retAddr 0] [] (hp nS M) Q = Q (some (.int (oI (gS w s k h last k)))) (hp nS M) := by
  have key : ∀ m, m ≤ k → am_Wp d 90 3 [.ref 202, .int (nI h), .int (nI s), .int (nI k), .int (nI last), .int (nI (k - m + 1))] [] (hp nS M) Q = Q (some (.int (oI (gS w s k h last m)))) (hp nS M) := by
    intro m
    induction m with
    | zero => intro _; rw [b_90_3, if_pos (by rw [lt_n (by omega) (by omega)]; omega), b_90_50]; rfl
    | succ m ih =>
      intro hm
      have e : k - (m + 1) + 1 = k - m := by omega
      rw [e, b_90_3, if_neg (by rw [lt_n (by omega) (by omega)]; omega), b_90_9, gS]
      by_cases h1 : h + (k - m) < s
      · rw [if_neg (by rw [nI_add, le_n (by omega) (by omega)]; omega), if_pos h1, b_90_17]
        by_cases h2 : k - m = last
        · rw [if_pos (by rw [h2]), if_neg (fun z => z.1 h2), b_90_44, nI_1]
          exact ih (by omega)
        · rw [if_neg (by rw [eq_n (by omega) (by omega)]; exact h2), b_90_24 (by rw [nI_add]; exact in_n (by omega) (by omega)), nI_add, cl_n (by omega)]
          have hb := hw (h + (k - m)) (k - m) (by omega) h1 (by omega) (by omega)
          cases hx : w (h + (k - m)) (k - m) with
          | false =>
            rw [if_neg (fun z => z (by rw [bit_0 _ (by omega), hb]; exact hx)), b_90_41, if_pos ⟨h2, rfl⟩]
            rfl
          | true =>
            rw [if_pos (by rw [bit_0 _ (by omega), hb, hx]; decide), b_90_44, nI_1, if_neg (fun z => absurd z.2 (by decide))]
            exact ih (by omega)
      · rw [if_pos (by rw [nI_add, le_n (by omega) (by omega)]; omega), if_neg h1, b_90_50]
        rfl
  rw [b_90_0]
  have := key k (Nat.le_refl _)
  rw [show k - k + 1 = 1 by omega] at this
  exact this
theorem oI_m1 {w : Nat → Nat → Bool} {s k h last : Nat} (hk : k ≤ 9) : ∀ m, (oI (gS w s k h last m) = -1) = ((gS w s k h last m).isSome = false)
  | 0 => by simp [gS, oI]
  | m + 1 => by
    rw [gS]
    by_cases h1 : h + (k - m) < s
    · rw [if_pos h1]
      by_cases h2 : ¬ k - m = last ∧ w (h + (k - m)) (k - m) = false
      · rw [if_pos h2]
        refine propext ⟨fun z => absurd z (nI_m1 (by omega)), fun z => by cases z⟩
      · rw [if_neg h2]
        exact oI_m1 hk m
    · rw [if_neg h1]
      simp [oI]
theorem m1_lt : ∀ h, h < 101 → nI h - 1 < nI h := by decide +kernel
theorem add_m1 (x : Int32) : x + (-1) = x - 1 := (Int32.sub_eq_add_neg _ _).symm
theorem x_game {d nS s k h : Nat} {M : am_M} {Q : Option Value → am_H → Prop} (w : Nat → Nat → Bool) (hw : gmT w s k) (hs : s ≤ 100) (hk : k ≤ 9) (hh : h < s) (hQ : ∀ r, Q (some (.int (oI (gS w s k h 0 k)))) (hp nS (am_row M 204 r))) : am_Wp (d + 1) 89 0 [.ref 202, .int (nI h), .int (nI s), .int (nI k), .retAddr 0, .retAddr 0] [] (hp nS M) Q := by
  have inner : ∀ (a : Nat), h ≤ a → a < s → (∀ r : Nat → Int32, (∀ b l, a ≤ b → b < s → l ≤ k → bt (r b) l = w b l) → am_Wp (d + 1) 89 62 [.ref 202, .int (nI h), .int (nI s), .int (nI k), .int (nI a), .int (nI (k + 1))] [] (hp nS (am_row M 204 r)) Q) → ∀ m l (r : Nat → Int32), l + m = k + 1 → (∀ b l', a < b → b < s → l' ≤ k → bt (r b) l' = w b l') → (∀ l', l' < 32 → bt (r a) l' = (decide (l' < l) && w a l')) → am_Wp (d + 1) 89 22 [.ref 202, .int (nI h), .int (nI s), .int (nI k), .int (nI a), .int (nI l)] [] (hp nS (am_row M 204 r)) Q := by
    intro a ha has hout m
    induction m with
    | zero =>
      intro l r hl hr hra
      have : l = k + 1 := by omega
      subst this
      rw [b_89_22, if_pos (by rw [lt_n (by omega) (by omega)]; omega)]
      refine hout r (fun b l' h1 h2 h3 => ?_)
      by_cases e : b = a
      · subst e
        rw [hra l' (by omega), decide_eq_true (by omega), Bool.true_and]
      · exact hr b l' (by omega) h2 h3
    | succ m ih =>
      intro l r hl hr hra
      rw [b_89_22, if_neg (by rw [lt_n (by omega) (by omega)]; omega), b_89_28, x_send w (fun b l' h1 h2 h3 h4 => by rw [row_same]; exact hr b l' h1 h2 h4) hs hk has (by omega), am_ans_some, b_89_38]
      have hwl := hw a l has
      cases hx : (gS w s k a l k).isSome with
      | false =>
        rw [if_pos (by rw [oI_m1 hk]; exact hx), b_89_56, nI_1]
        refine ih (l + 1) r (by omega) hr (fun l' hl' => ?_)
        rw [hra l' hl']
        by_cases e : l' = l
        · subst e
          rw [hwl, hx, Bool.and_false, Bool.and_false]
        · by_cases h2 : l' < l
          · rw [decide_eq_true h2, decide_eq_true (by omega)]
          · rw [decide_eq_false h2, decide_eq_false (by omega)]
      | true =>
        rw [if_neg (by rw [oI_m1 hk, hx]; decide), b_89_42 (by first | exact in_n (by omega) (by omega) | (simp only [li, nI_add, pk_mul]; exact in_n (by omega) (by omega))) (by first | exact in_n (by omega) (by omega) | (simp only [li, nI_add, pk_mul]; exact in_n (by omega) (by omega))), cl_n (by omega), row_same, up_row, b_89_56, nI_1]
        refine ih (l + 1) _ (by omega) (fun b l' h1 h2 h3 => ?_) (fun l' hl' => ?_)
        · rw [upd_ne _ _ (by omega)]
          exact hr b l' h1 h2 h3
        · rw [upd_same, bit_set (by omega) hl', hra l' hl']
          by_cases e : l' = l
          · subst e
            rw [hwl, hx, decide_eq_true rfl, Bool.or_true, decide_eq_true (by omega)]
            rfl
          · rw [decide_eq_false e, Bool.or_false]
            by_cases h2 : l' < l
            · rw [decide_eq_true h2, decide_eq_true (by omega)]
            · rw [decide_eq_false h2, decide_eq_false (by omega)]
  have key : ∀ m a1 (r : Nat → Int32) z, a1 = h + m → a1 ≤ s → (∀ b l, a1 ≤ b → b < s → l ≤ k → bt (r b) l = w b l) → am_Wp (d + 1) 89 5 [.ref 202, .int (nI h), .int (nI s), .int (nI k), .int (nI a1 - 1), z] [] (hp nS (am_row M 204 r)) Q := by
    intro m
    induction m with
    | zero =>
      intro a1 r z ha has hr
      have : a1 = h := by omega
      subst this
      rw [b_89_5, if_pos (m1_lt _ (by omega)), b_89_68]
      refine Eq.mpr (x_send (last := 0) w (fun b l h1 h2 _ h4 => by rw [row_same]; exact hr b l (by omega) h2 h4) hs hk hh (by omega)) ?_
      rw [am_ans_some, b_89_76]
      exact hQ r
    | succ m ih =>
      intro a1 r z ha has hr
      have e1 : nI a1 - 1 = nI (h + m) := by rw [sub1 (by omega), ha]; rfl
      rw [e1, b_89_5, if_neg (by rw [lt_n (by omega) (by omega)]; omega), b_89_11 (by first | exact in_n (by omega) (by omega) | (simp only [li, nI_add, pk_mul]; exact in_n (by omega) (by omega))), cl_n (by omega), up_row]
      refine inner (h + m) (by omega) (by omega) (fun r' hr' => ?_) (k + 1) 0 _ (by omega) (fun b l h1 h2 h3 => ?_) (fun l hl => ?_)
      · rw [b_89_62, add_m1]
        exact ih (h + m) r' _ rfl (by omega) hr'
      · rw [upd_ne _ _ (by omega)]
        exact hr b l (by omega) h2 h3
      · rw [upd_same, b_0, decide_eq_false (by omega), Bool.false_and]
  rw [b_89_0, ← row_id M 204]
  exact key (s - h) s _ _ (by omega) (by omega) (fun b l h1 h2 => by omega)
/-! the model -/
theorem m_send {d nS s k h last : Nat} {M : am_M} {Q : Option Value → am_H → Prop} (w : Nat → Nat → Bool) (hw : ∀ a l, h < a → a < s → 1 ≤ l → l ≤ k → M 237 (10 * a + l) = bI (w a l)) (hs : s ≤ 100) (hk : k ≤ 9) (hh : h < s) (hl : last ≤ 9) : am_Wp d 289 0 [.ref 205, .int (nI h), .int (nI s), .int (nI k), .int (nI last), .retAddr 0] [] (hp nS M) Q = Q (some (.int (oI (gS w s k h last k)))) (hp nS M) := by
  have key : ∀ m, m ≤ k → am_Wp d 289 3 [.ref 205, .int (nI h), .int (nI s), .int (nI k), .int (nI last), .int (nI (k - m + 1))] [] (hp nS M) Q = Q (some (.int (oI (gS w s k h last m)))) (hp nS M) := by
    intro m
    induction m with
    | zero => intro _; rw [b_289_3, if_pos (by rw [lt_n (by omega) (by omega)]; omega), b_289_51]; rfl
    | succ m ih =>
      intro hm
      have e : k - (m + 1) + 1 = k - m := by omega
      rw [e, b_289_3, if_neg (by rw [lt_n (by omega) (by omega)]; omega), b_289_9, gS]
      by_cases h1 : h + (k - m) < s
      · rw [if_neg (by rw [nI_add, le_n (by omega) (by omega)]; omega), if_pos h1, b_289_17]
        by_cases h2 : k - m = last
        · rw [if_pos (by rw [h2]), if_neg (fun z => z.1 h2), b_289_45, nI_1]
          exact ih (by omega)
        · rw [if_neg (by rw [eq_n (by omega) (by omega)]; exact h2), b_289_24 (by rw [nI_add, ten]; exact in_n (by omega) (by omega)), nI_add, ten, cl_n (by omega), hw (h + (k - m)) (k - m) (by omega) h1 (by omega) (by omega)]
          cases hx : w (h + (k - m)) (k - m) with
          | false =>
            rw [if_neg (fun z => z rfl), b_289_42, if_pos ⟨h2, rfl⟩]
            rfl
          | true =>
            rw [if_pos (by decide), b_289_45, nI_1, if_neg (fun z => absurd z.2 (by decide))]
            exact ih (by omega)
      · rw [if_pos (by rw [nI_add, le_n (by omega) (by omega)]; omega), if_neg h1, b_289_51]
        rfl
  rw [b_289_0]
  have := key k (Nat.le_refl _)
  rw [show k - k + 1 = 1 by omega] at this
  exact this
theorem m_game {d nS s k h : Nat} {M : am_M} {Q : Option Value → am_H → Prop} (w : Nat → Nat → Bool) (hw : gmT w s k) (hs : s ≤ 100) (hk : k ≤ 9) (hh : h < s) (hQ : ∀ r, Q (some (.int (oI (gS w s k h 0 k)))) (hp nS (am_row M 237 r))) : am_Wp (d + 1) 288 41 [.ref 205, .int (nI h), .int (nI s), .int (nI k), .retAddr 0, .retAddr 0] [] (hp nS M) Q := by
  have inner : ∀ (a : Nat), h < a → a < s → (∀ r : Nat → Int32, (∀ b l, a ≤ b → b < s → 1 ≤ l → l ≤ k → r (10 * b + l) = bI (w b l)) → am_Wp (d + 1) 288 99 [.ref 205, .int (nI h), .int (nI s), .int (nI k), .int (nI a), .int (nI (k + 1))] [] (hp nS (am_row M 237 r)) Q) → ∀ m l (r : Nat → Int32), l + m = k + 1 → 1 ≤ l → (∀ b l', a < b → b < s → 1 ≤ l' → l' ≤ k → r (10 * b + l') = bI (w b l')) → (∀ l', 1 ≤ l' → l' < l → r (10 * a + l') = bI (w a l')) → am_Wp (d + 1) 288 55 [.ref 205, .int (nI h), .int (nI s), .int (nI k), .int (nI a), .int (nI l)] [] (hp nS (am_row M 237 r)) Q := by
    intro a ha has hout m
    induction m with
    | zero =>
      intro l r hl _ hr hra
      have : l = k + 1 := by omega
      subst this
      rw [b_288_55, if_pos (by rw [lt_n (by omega) (by omega)]; omega)]
      refine hout r (fun b l' h1 h2 h3 h4 => ?_)
      by_cases e : b = a
      · subst e
        exact hra l' h3 (by omega)
      · exact hr b l' (by omega) h2 h3 h4
    | succ m ih =>
      intro l r hl hl1 hr hra
      have put : ∀ v : Int32, v = bI (w a l) → am_Wp (d + 1) 288 92 [.ref 205, .int (nI h), .int (nI s), .int (nI k), .int (nI a), .int (nI l)] [.int v, .int (nI (10 * a + l)), .ref 237] (hp nS (am_row M 237 r)) Q := by
        intro v hv
        rw [b_288_92 (by first | exact in_n (by omega) (by omega) | (simp only [li, nI_add, pk_mul]; exact in_n (by omega) (by omega))), cl_n (by omega), up_row, nI_1]
        refine ih (l + 1) _ (by omega) (by omega) (fun b l' h1 h2 h3 h4 => ?_) (fun l' h1 h2 => ?_)
        · rw [upd_ne _ _ (by omega)]
          exact hr b l' h1 h2 h3 h4
        · by_cases e : l' = l
          · rw [e, upd_same, hv]
          · rw [upd_ne _ _ (by omega)]
            exact hra l' h1 (by omega)
      rw [b_288_55, if_neg (by rw [lt_n (by omega) (by omega)]; omega), b_288_61, m_send w (fun b l' h1 h2 h3 h4 => by rw [row_same]; exact hr b l' h1 h2 h3 h4) hs hk has (by omega), am_ans_some, ten, b_288_83]
      have hwl := hw a l has
      cases hx : (gS w s k a l k).isSome with
      | false =>
        rw [if_neg (fun z => z (by rw [oI_m1 hk]; exact hx)), b_288_87]
        exact put 0 (by rw [hwl, hx]; rfl)
      | true =>
        rw [if_pos (by rw [oI_m1 hk, hx]; decide), b_288_91]
        exact put 1 (by rw [hwl, hx]; rfl)
  have key : ∀ m a (r : Nat → Int32) z, a = h + m → a < s → (∀ b l, a < b → b < s → 1 ≤ l → l ≤ k → r (10 * b + l) = bI (w b l)) → am_Wp (d + 1) 288 46 [.ref 205, .int (nI h), .int (nI s), .int (nI k), .int (nI a), z] [] (hp nS (am_row M 237 r)) Q := by
    intro m
    induction m with
    | zero =>
      intro a r z ha has hr
      have : a = h := by omega
      subst this
      rw [b_288_46, if_pos (Int32.le_refl _), b_288_105]
      refine Eq.mpr (m_send (last := 0) w (fun b l h1 h2 h3 h4 => by rw [row_same]; exact hr b l h1 h2 h3 h4) hs hk hh (by omega)) ?_
      rw [am_ans_some, b_288_113]
      exact hQ r
    | succ m ih =>
      intro a r z ha has hr
      rw [b_288_46, if_neg (by rw [le_n (by omega) (by omega)]; omega), b_288_52]
      refine inner a (by omega) has (fun r' hr' => ?_) k 1 r (by omega) (by omega) hr (fun l h1 h2 => by omega)
      rw [b_288_99, add_m1, sub1 (by omega)]
      exact ih (a - 1) r' _ (by omega) (by omega) (fun b l h1 h2 h3 h4 => hr' b l (by omega) h2 h3 h4)
  rw [b_288_41, ← row_id M 237, sub1 (by omega)]
  exact key (s - 1 - h) (s - 1) _ _ (by omega) (by omega) (fun b l h1 h2 => by omega)
end
