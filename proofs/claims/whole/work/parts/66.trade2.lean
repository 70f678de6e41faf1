/-! THE ROW OF PRICES: trades, the machine's side -/
theorem up_row_l (M : am_M) {x y : Nat} (h : x ≠ y) (a b : Nat → Int32) (k : Nat) (v : Int32) : am_up (am_row (am_row M x a) y b) x k v = am_row (am_row M x (upd a k v)) y b := by
  rw [up_def, row_ne _ _ h, row_same, row_comm _ _ _ h.symm, row_row]
theorem row_l (M : am_M) {x y : Nat} (h : x ≠ y) (a b : Nat → Int32) : am_row (am_row M x a) y b x = a := by rw [row_ne _ _ h, row_same]
theorem row_n2 (M : am_M) {x y z : Nat} (h : z ≠ x) (h2 : z ≠ y) (a b : Nat → Int32) : am_row (am_row M x a) y b z = M z := by rw [row_ne _ _ h2, row_ne _ _ h]
theorem x_weighsIn {d nS c i : Nat} {M : am_M} {Q : Option Value → am_H → Prop} (p : Nat → Int) (hpp : ∀ k, 1 ≤ p k ∧ p k ≤ 99) (hq : ∀ k, k < c → M 46 k = zI (p k)) (hi : i < c) (h14 : c ≤ 14)
    (kk : ∀ a b : Nat → Int32, (∀ s, s < 6 → a s = zI (tdG p s (i + 1)).1) → (∀ s, 1 ≤ s → s < 6 → b s = zI (tdG p s (i + 1)).2) → ∀ z, am_Wp (d + 1) 67 20 [.ref 45, .int (nI (i + 1)), z] [] (hp nS (am_row (am_row M 48 a) 49 b)) Q) :
    ∀ (t : Nat) (a b : Nat → Int32), t < 6 → (∀ s, s < 6 → a s = zI (tdG p s (if t < s then i + 1 else i)).1) → (∀ s, 1 ≤ s → s < 6 → b s = zI (tdG p s (if t < s then i + 1 else i)).2) → am_Wp (d + 1) 67 30 [.ref 45, .int (nI i), .int (nI t)] [] (hp nS (am_row (am_row M 48 a) 49 b)) Q := by
  intro t
  induction t with
  | zero =>
    intro a b _ ha hb
    rw [b_67_30, if_pos (by decide), b_67_99, nI_1]
    refine kk a b (fun s hs => ?_) (fun s h1 hs => ?_) _
    · rw [ha s hs]
      by_cases h0 : s = 0
      · subst h0; rw [tdG_0, tdG_0]
      · rw [if_pos (by omega)]
    · rw [hb s h1 hs, if_pos (by omega)]
  | succ t ih =>
    intro a b ht ha hb
    have B1 := tdG_b p hpp (t + 1) i
    have B0 := tdG_b p hpp t i
    have Bp := hpp i
    have hci : (99 : Int) * i ≤ 99 * 14 := by omega
    have e48 : a (t + 1) = zI (tdG p (t + 1) i).1 := by rw [ha (t + 1) ht, if_neg (by omega)]
    have e49 : b (t + 1) = zI (tdG p (t + 1) i).2 := by rw [hb (t + 1) (by omega) ht, if_neg (by omega)]
    have e47 : a t = zI (tdG p t i).1 := by rw [ha t (by omega), if_neg (by omega)]
    have e46 : am_row (am_row M 48 a) 49 b 46 i = zI (p i) := by rw [row_n2 _ (by decide) (by decide), hq i hi]
    rw [b_67_30, if_neg (by rw [li, lt_n (by omega) (by omega)]; omega), b_67_35 (by first | exact in_n (by omega) (by omega) | (simp only [li, nI_add, pk_mul]; exact in_n (by omega) (by omega))) (by first | exact in_n (by omega) (by omega) | (simp only [li, nI_add, pk_mul]; exact in_n (by omega) (by omega))) (by first | exact in_n (by omega) (by omega) | (simp only [li, nI_add, pk_mul]; exact in_n (by omega) (by omega))), cl_n (by omega), cl_n (by omega), row_l _ (by decide), row_same, e46, e48, e49, zI_add, c_297, am_ans_some, zmax_i (by omega) (by omega), ← tdG_1]
    have e1 : nI (t + 1) - 1 = nI t := sub1 (a := t + 1) (by omega)
    rw [b_67_62 (by first | exact in_n (by omega) (by omega) | (simp only [li, nI_add, pk_mul]; exact in_n (by omega) (by omega))) (by first | exact in_n (by omega) (by omega) | (simp only [li, nI_add, pk_mul]; exact in_n (by omega) (by omega))) (by rw [e1]; exact in_n (by omega) (by omega)) (by first | exact in_n (by omega) (by omega) | (simp only [li, nI_add, pk_mul]; exact in_n (by omega) (by omega))), e1, cl_n (by omega), cl_n (by omega), cl_n (by omega), up_row_l _ (by decide), row_same, row_l _ (by decide), row_n2 _ (by decide) (by decide), hq i hi, e49, upd_ne _ _ (by omega), e47, zI_sub, c_297, am_ans_some, zmax_i (by omega) (by omega), ← tdG_2, b_67_92 (by first | exact in_n (by omega) (by omega) | (simp only [li, nI_add, pk_mul]; exact in_n (by omega) (by omega))), cl_n (by omega), up_row, pk_m1]
    refine ih _ _ (by omega) (fun s hs => ?_) (fun s h1 hs => ?_)
    · rw [upd_at]
      by_cases h : s = t + 1
      · rw [if_pos h, if_pos (by omega), h]
      · rw [if_neg h, ha s hs]
        by_cases h2 : t + 1 < s
        · rw [if_pos h2, if_pos (by omega)]
        · rw [if_neg h2, if_neg (by omega)]
    · rw [upd_at]
      by_cases h : s = t + 1
      · rw [if_pos h, if_pos (by omega), h]
      · rw [if_neg h, hb s h1 hs]
        by_cases h2 : t + 1 < s
        · rw [if_pos h2, if_pos (by omega)]
        · rw [if_neg h2, if_neg (by omega)]
theorem x_weighs {d nS c : Nat} {M : am_M} {Q : Option Value → am_H → Prop} (p : Nat → Int) (hpp : ∀ k, 1 ≤ p k ∧ p k ≤ 99) (hq : ∀ k, k < c → M 46 k = zI (p k)) (hc : M 45 1 = nI c) (h14 : c ≤ 14) (hQ : ∀ a b : Nat → Int32, (∀ s, s < 6 → a s = zI (tdG p s c).1) → Q none (hp nS (am_row (am_row M 48 a) 49 b))) : am_Wp (d + 1) 67 0 [.ref 45, .retAddr 0, .retAddr 0] [] (hp nS M) Q := by
  have key : ∀ (m i : Nat) (a b : Nat → Int32), i + m = c → (∀ s, s < 6 → a s = zI (tdG p s i).1) → (∀ s, 1 ≤ s → s < 6 → b s = zI (tdG p s i).2) → ∀ z, am_Wp (d + 1) 67 20 [.ref 45, .int (nI i), z] [] (hp nS (am_row (am_row M 48 a) 49 b)) Q := by
    intro m
    induction m with
    | zero =>
      intro i a b h1 ha hb z
      have : i = c := by omega
      subst this
      rw [b_67_20, row_n2 _ (by decide) (by decide), hc, if_pos (Int32.le_refl _), b_67_105]
      exact hQ a b ha
    | succ m ih =>
      intro i a b h1 ha hb z
      rw [b_67_20, row_n2 _ (by decide) (by decide), hc, if_neg (by rw [le_n (by omega) (by omega)]; omega), b_67_28]
      refine x_weighsIn p hpp hq (by omega) h14 (fun a' b' ha' hb' z' => ih (i + 1) a' b' (by omega) ha' hb' z') 5 a b (by omega) (fun s hs => ?_) (fun s h1 hs => ?_)
      · rw [ha s hs, if_neg (by omega)]
      · rw [hb s h1 hs, if_neg (by omega)]
  rw [b_67_0, fill_48, am_ans_none, b_67_8, fill_49, am_ans_none, b_67_18]
  refine key c 0 _ _ (by omega) (fun s hs => ?_) (fun s h1 hs => ?_) _
  · rw [if_pos hs, tdG_z]; rfl
  · rw [if_pos hs, tdG_z]; rfl
theorem x_mostGain {d nS c k : Nat} {M : am_M} {Q : Option Value → am_H → Prop} (p : Nat → Int) (hpp : ∀ k, 1 ≤ p k ∧ p k ≤ 99) (hq : ∀ k, k < c → M 46 k = zI (p k)) (hc : M 45 1 = nI c) (h14 : c ≤ 14) (h1 : 1 ≤ k) (h5 : k ≤ 5) (hQ : ∀ a b : Nat → Int32, (∀ s, s < 6 → a s = zI (tdG p s c).1) → Q (some (.int (zI (tdG p k c).1))) (hp nS (am_row (am_row M 48 a) 49 b))) : am_Wp (d + 2) 66 0 [.ref 45, .int (nI k)] [] (hp nS M) Q := by
  rw [b_66_0]
  refine x_weighs p hpp hq hc h14 (fun a b ha => ?_)
  have e : (if (5 : Int32) < nI k then (5 : Int32) else nI k) = nI k := by
    rw [if_neg (by rw [li, lt_n (by omega) (by omega)]; omega)]
  rw [am_ans_none, b_66_4, c_296, am_ans_some, e, b_66_13 (by first | exact in_n (by omega) (by omega) | (simp only [li, nI_add, pk_mul]; exact in_n (by omega) (by omega))), cl_n (by omega), row_l _ (by decide), ha k (by omega)]
  exact hQ a b ha
/-- the fewest times that gain as much -/
theorem x_fewest {d nS c k : Nat} {M : am_M} {Q : Option Value → am_H → Prop} (p : Nat → Int) (hpp : ∀ k, 1 ≤ p k ∧ p k ≤ 99) (hq : ∀ k, k < c → M 46 k = zI (p k)) (hc : M 45 1 = nI c) (h14 : c ≤ 14) (h1 : 1 ≤ k) (h5 : k ≤ 5) (hQ : ∀ (t : Nat) (a b : Nat → Int32), t ≤ k → (tdG p t c).1 = (tdG p k c).1 → (∀ s, s < t → (tdG p s c).1 ≠ (tdG p k c).1) → Q (some (.int (nI t))) (hp nS (am_row (am_row M 48 a) 49 b))) : am_Wp (d + 3) 68 0 [.ref 45, .int (nI k), .retAddr 0, .retAddr 0] [] (hp nS M) Q := by
  rw [b_68_0]
  refine x_mostGain p hpp hq hc h14 h1 h5 (fun a b ha => ?_)
  rw [am_ans_some, b_68_5]
  have key : ∀ m t, t + m = k → (∀ s, s < t → (tdG p s c).1 ≠ (tdG p k c).1) → am_Wp (d + 3) 68 8 [.ref 45, .int (nI k), .int (zI (tdG p k c).1), .int (nI t)] [] (hp nS (am_row (am_row M 48 a) 49 b)) Q := by
    intro m
    induction m with
    | zero =>
      intro t ht hn
      have : t = k := by omega
      subst this
      rw [b_68_8, if_pos (Int32.le_refl _), b_68_36]
      exact hQ t a b (Nat.le_refl _) rfl hn
    | succ m ih =>
      intro t ht hn
      have B1 := tdG_b p hpp t c
      have B2 := tdG_b p hpp k c
      rw [b_68_8, if_neg (by rw [le_n (by omega) (by omega)]; omega), b_68_13, if_neg (by rw [li, le_n (by omega) (by omega)]; omega), b_68_18 (by first | exact in_n (by omega) (by omega) | (simp only [li, nI_add, pk_mul]; exact in_n (by omega) (by omega))), cl_n (by omega), row_l _ (by decide), ha t (by omega)]
      by_cases h : (tdG p t c).1 = (tdG p k c).1
      · rw [if_neg (fun z => z (by rw [h])), b_68_28]
        exact hQ t a b (by omega) h hn
      · rw [if_pos (by rw [zeq (by omega) (by omega)]; exact h), b_68_30, nI_1]
        refine ih (t + 1) (by omega) (fun s hs => ?_)
        by_cases h' : s = t
        · subst h'; exact h
        · exact hn s (by omega)
  exact key k 0 (by omega) (fun s hs => absurd hs (by omega))
/-- the reference's table -/
def gbO (p : Nat → Int) (c : Nat) (r : Nat → Int32) (k i : Nat) : Prop := (∀ k' j, k' < k → j < c → r (14 * k' + j) = zI (tdG p k' (j + 1)).1) ∧ ∀ j, j < i → r (14 * k + j) = zI (tdG p k (j + 1)).1
theorem m_gain {d nS c t : Nat} {M : am_M} {Q : Option Value → am_H → Prop} (p : Nat → Int) (hpp : ∀ k, 1 ≤ p k ∧ p k ≤ 99) (hq : ∀ k, k < c → M 227 k = zI (p k)) (hc : M 205 45 = nI c) (h14 : c ≤ 14) (h5 : t ≤ 5) (hQ : ∀ r, Q (some (.int (zI (tdG p t c).1))) (hp nS (am_row M 228 r))) : am_Wp (d + 1) 258 0 [.ref 205, .int (nI t), .retAddr 0, .retAddr 0, .retAddr 0, .retAddr 0] [] (hp nS M) Q := by
  have eM : ∀ r, am_row M 228 r 205 45 = nI c := fun r => by rw [row_ne _ _ (by decide), hc]
  have eP : ∀ r j, j < c → am_row M 228 r 227 j = zI (p j) := fun r j hj => by rw [row_ne _ _ (by decide), hq j hj]
  have ix : ∀ a b, (14 : Int32) * nI a + nI b = nI (14 * a + b) := fun a b => by rw [li, pk_mul, nI_add]
  -- one row
  have row1 : ∀ k, k ≤ t → (∀ r, gbO p c r (k + 1) 0 → ∀ z3 z4 z5, am_Wp (d + 1) 258 2 [.ref 205, .int (nI t), .int (nI (k + 1)), z3, z4, z5] [] (hp nS (am_row M 228 r)) Q) → ∀ m i r, i + m = c → gbO p c r k i → ∀ z4 z5, am_Wp (d + 1) 258 9 [.ref 205, .int (nI t), .int (nI k), .int (nI i), z4, z5] [] (hp nS (am_row M 228 r)) Q := by
    intro k hk next m
    induction m with
    | zero =>
      intro i r h1 hg z4 z5
      have : i = c := by omega
      subst this
      rw [b_258_9, eM, if_pos (Int32.le_refl _), b_258_115, nI_1]
      refine next r ⟨fun k' j h1 h2 => ?_, fun j hj => absurd hj (by omega)⟩ _ _ _
      by_cases h : k' = k
      · subst h; exact hg.2 j h2
      · exact hg.1 k' j (by omega) h2
    | succ m ih =>
      intro i r h1 hg z4 z5
      -- behind the fold
      have fin : ∀ x5 v, v = zI (tdG p k (i + 1)).1 → am_Wp (d + 1) 258 96 [.ref 205, .int (nI t), .int (nI k), .int (nI i), .int v, .int x5] [] (hp nS (am_row M 228 r)) Q := by
        intro x5 v hv
        subst hv
        rw [b_258_96 (by rw [ix]; exact in_n (by omega) (by omega)), ix, cl_n (by omega), up_row, nI_1]
        refine ih (i + 1) _ (by omega) ⟨fun k' j h1 h2 => ?_, fun j hj => ?_⟩ _ _
        · rw [upd_ne _ _ (by omega)]; exact hg.1 k' j h1 h2
        · by_cases h : j = i
          · subst h; rw [upd_same]
          · rw [upd_ne _ _ (by omega)]; exact hg.2 j (by omega)
      have fold : am_Wp (d + 1) 258 43 [.ref 205, .int (nI t), .int (nI k), .int (nI i), .int (zI (tdG p k i).1), .int 0] [] (hp nS (am_row M 228 r)) Q := by
        cases k with
        | zero =>
          rw [b_258_43]
          have e0 : (tdG p 0 i).1 = (tdG p 0 (i + 1)).1 := by rw [tdG_0, tdG_0]
          by_cases h0 : i = 0
          · rw [if_pos (by rw [h0]; decide)]
            exact fin _ _ (by rw [e0])
          · rw [if_neg (by rw [li, le_n (by omega) (by omega)]; omega), b_258_49, if_pos (by decide)]
            exact fin _ _ (by rw [e0])
        | succ k =>
          have B := tdG_b p hpp
          refine l_up i (fun f => am_Wp (d + 1) 258 43 [.ref 205, .int (nI t), .int (nI (k + 1)), .int (nI i), .int (zI (mxF (tdG p (k + 1) i).1 (fun f => p i - p f + (tdG p k (f + 1)).1) f)), .int (nI f)] [] (hp nS (am_row M 228 r)) Q) ?_ (fun f hf ih2 => ?_)
          · rw [b_258_43, if_pos (Int32.le_refl _)]
            exact fin _ _ (by rw [td_eq p hpp])
          · have e1 : nI (k + 1) - 1 = nI k := sub1 (a := k + 1) (by omega)
            have b1 := B (k + 1) i
            have b2 := B k (f + 1)
            have b3 := hpp i
            have b4 := hpp f
            have b5 : mxF (tdG p (k + 1) i).1 (fun f => p i - p f + (tdG p k (f + 1)).1) f ≤ 10000 := by
              refine mxF_le _ _ _ f (by omega) (fun g hg => ?_)
              have := B k (g + 1)
              have := hpp g
              show p i - p g + (tdG p k (g + 1)).1 ≤ 10000
              omega
            have b6 := (mxF_ge (tdG p (k + 1) i).1 (fun f => p i - p f + (tdG p k (f + 1)).1) f).1
            have er : r (14 * k + f) = zI (tdG p k (f + 1)).1 := hg.1 k f (by omega) (by omega)
            rw [b_258_43, if_neg (by rw [le_n (by omega) (by omega)]; omega), b_258_49, if_neg (by rw [li, le_n (by omega) (by omega)]; omega), b_258_53 (by first | exact in_n (by omega) (by omega) | (simp only [li, nI_add, pk_mul]; exact in_n (by omega) (by omega))) (by first | exact in_n (by omega) (by omega) | (simp only [li, nI_add, pk_mul]; exact in_n (by omega) (by omega))) (by rw [e1, ix]; exact in_n (by omega) (by omega)), e1, ix, cl_n (by omega), cl_n (by omega), cl_n (by omega), eP r i (by omega), eP r f (by omega), row_same, er, zI_sub, zI_add, c_239, am_ans_some, zmax_j (by omega) (by omega), b_258_88, nI_1]
            exact ih2
      rw [b_258_9, eM, if_neg (by rw [le_n (by omega) (by omega)]; omega), b_258_17]
      by_cases h0 : i = 0
      · rw [if_neg (by rw [h0]; decide), b_258_21, b_258_38]
        have : zI (tdG p k i).1 = 0 := by rw [h0, tdG_z]; rfl
        rw [this] at fold
        exact fold
      · have e2 : (14 : Int32) * nI k + nI i - 1 = nI (14 * k + (i - 1)) := by rw [ix, sub1 (by omega)]; congr 1; omega
        have e3 : r (14 * k + (i - 1)) = zI (tdG p k i).1 := by
          rw [hg.2 (i - 1) (by omega), show i - 1 + 1 = i by omega]
        rw [if_pos (by rw [li, eq_n (by omega) (by omega)]; omega), b_258_25 (by rw [e2]; exact in_n (by omega) (by omega)), e2, cl_n (by omega), row_same, e3, b_258_38]
        exact fold
  have all : ∀ m k r, k + m = t + 1 → gbO p c r k 0 → ∀ z3 z4 z5, am_Wp (d + 1) 258 2 [.ref 205, .int (nI t), .int (nI k), z3, z4, z5] [] (hp nS (am_row M 228 r)) Q := by
    intro m
    induction m with
    | zero =>
      intro k r h1 hg z3 z4 z5
      rw [b_258_2, if_pos (by rw [lt_n (by omega) (by omega)]; omega), b_258_121, eM]
      by_cases h0 : c = 0
      · rw [if_neg (by rw [h0]; decide), b_258_128, b_258_148]
        have := hQ r
        rw [h0, tdG_z] at this
        exact this
      · have e2 : (14 : Int32) * nI t + nI c - 1 = nI (14 * t + (c - 1)) := by rw [ix, sub1 (by omega)]; congr 1; omega
        rw [if_pos (by rw [li, eq_n (by omega) (by omega)]; omega), b_258_132 (by rw [eM, e2]; exact in_n (by omega) (by omega)), eM, e2, cl_n (by omega), row_same, hg.1 t (c - 1) (by omega) (by omega), show c - 1 + 1 = c by omega, b_258_148]
        exact hQ r
    | succ m ih =>
      intro k r h1 hg z3 z4 z5
      rw [b_258_2, if_neg (by rw [lt_n (by omega) (by omega)]; omega), b_258_7]
      exact row1 k (by omega) (fun r' hg' z3' z4' z5' => ih (k + 1) r' (by omega) hg' _ _ _) c 0 r (by omega) hg _ _
  have e0 : am_row M 228 (M 228) = M := row_id M 228
  rw [b_258_0, ← e0]
  exact all (t + 1) 0 _ (by omega) ⟨fun k' j h => absurd h (by omega), fun j h => absurd h (by omega)⟩ _ _ _
theorem m_trading {d nS c k : Nat} {w : Int32} {M : am_M} {Q : Option Value → am_H → Prop} (p : Nat → Int) (hpp : ∀ k, 1 ≤ p k ∧ p k ≤ 99) (hq : ∀ k, k < c → M 227 k = zI (p k)) (hc : M 205 45 = nI c) (h14 : c ≤ 14) (h1 : 1 ≤ k) (h5 : k ≤ 5) (hQ : ∀ (t : Nat) (r : Nat → Int32), t ≤ k → (tdG p t c).1 = (tdG p k c).1 → (∀ s, s < t → (tdG p s c).1 ≠ (tdG p k c).1) → Q (some (.int (if ¬ w = 0 then nI t else zI (tdG p k c).1))) (hp nS (am_row M 228 r))) : am_Wp (d + 2) 257 27 [.ref 205, .int (nI k), .int w, .retAddr 0, .retAddr 0] [] (hp nS M) Q := by
  have mono : ∀ a m, (tdG p a c).1 ≤ (tdG p (a + m) c).1 := by
    intro a m
    induction m with
    | zero => exact Int.le_refl _
    | succ m ih => exact Int.le_trans ih (tdG_mk p (a + m) c)
  rw [b_257_27]
  refine m_gain p hpp hq hc h14 h5 (fun r => ?_)
  rw [am_ans_some, b_257_32]
  have key : ∀ m t r, t + m = k → (∀ s, s < t → (tdG p s c).1 ≠ (tdG p k c).1) → am_Wp (d + 2) 257 36 [.ref 205, .int (nI k), .int w, .int (zI (tdG p k c).1), .int (nI t)] [] (hp nS (am_row M 228 r)) Q := by
    intro m
    induction m with
    | zero =>
      intro t r ht hn
      have : t = k := by omega
      subst this
      rw [b_257_36]
      refine m_gain p hpp (fun j hj => by rw [row_ne _ _ (by decide), hq j hj]) (by rw [row_ne _ _ (by decide), hc]) h14 h5 (fun r' => ?_)
      rw [am_ans_some, b_257_42, if_pos (Int32.le_refl _), row_row, b_257_55]
      have := hQ t r' (Nat.le_refl _) rfl hn
      by_cases hw : w = 0
      · rw [if_neg (fun z => z hw)] at this ⊢
        rw [b_257_59, b_257_65]; exact this
      · rw [if_pos hw] at this ⊢
        rw [b_257_63, b_257_65]; exact this
    | succ m ih =>
      intro t r ht hn
      have B1 := tdG_b p hpp t c
      have B2 := tdG_b p hpp k c
      have hm := mono t (k - t)
      rw [show t + (k - t) = k by omega] at hm
      rw [b_257_36]
      refine m_gain p hpp (fun j hj => by rw [row_ne _ _ (by decide), hq j hj]) (by rw [row_ne _ _ (by decide), hc]) h14 (by omega) (fun r' => ?_)
      rw [am_ans_some, b_257_42, row_row]
      by_cases h : (tdG p t c).1 = (tdG p k c).1
      · rw [if_pos (by rw [h]; exact Int32.le_refl _), b_257_55]
        have := hQ t r' (by omega) h hn
        by_cases hw : w = 0
        · rw [if_neg (fun z => z hw)] at this ⊢
          rw [b_257_59, b_257_65]; exact this
        · rw [if_pos hw] at this ⊢
          rw [b_257_63, b_257_65]; exact this
      · rw [if_neg (by rw [zle (by omega) (by omega)]; omega), b_257_46, nI_1]
        refine ih (t + 1) r' (by omega) (fun s hs => ?_)
        by_cases h' : s = t
        · subst h'; exact h
        · exact hn s (by omega)
  exact key k 0 r (by omega) (fun s hs => absurd hs (by omega))
