section
/-! HOW MANY SHARES -/
def uS (v p : Nat) (r : Nat → Int32) : Nat → Int32 := upd r v (r v + r (v - p))
def agr (n : Nat) (r P : Nat → Int32) : Prop := ∀ v, v ≤ n → r v = P v
theorem agr_up {n v p : Nat} {r P : Nat → Int32} (h : agr n r P) (hv : v ≤ n) : agr n (upd r v (r v + r (v - p))) (uS v p P) := by
  intro j hj
  unfold uS
  rw [upd_at, upd_at]
  by_cases e : j = v
  · rw [if_pos e, if_pos e, h v hv, h (v - p) (by omega)]
  · rw [if_neg e, if_neg e, h j hj]
/-- one part more: unlike ones from above, others from below -/
def shP (n : Nat) (un : Bool) (p : Nat) (r : Nat → Int32) : Nat → Int32 := itr (fun j r => uS (if un then n - j else p + j) p r) r (n + 1 - p)
def sh0 (v : Nat) : Int32 := if v = 0 then 1 else 0
def shA (n step : Nat) (un : Bool) (K : Nat) : Nat → Int32 := itr (fun i r => shP n un (1 + i * step) r) sh0 K
theorem sub_n {a b : Nat} (h : b ≤ a) : nI a - nI b = nI (a - b) := pk_sub h
theorem x_unlike {d nS n : Nat} {M : am_M} {Q : Option Value → am_H → Prop} (hn : n ≤ 60) (hQ : ∀ r, Q (some (.int (shA n 1 true n n))) (hp nS (am_row M 203 r))) : am_Wp (d + 1) 87 0 [.ref 202, .int (nI n), .retAddr 0, .retAddr 0] [] (hp nS M) Q := by
  have inner : ∀ p, 1 ≤ p → p ≤ n → ∀ P, (∀ (r : Nat → Int32) (x3 : Int32), agr n r (shP n true p P) → am_Wp (d + 1) 87 52 [.ref 202, .int (nI n), .int (nI p), .int x3] [] (hp nS (am_row M 203 r)) Q) → ∀ m j (r : Nat → Int32), j + m = n + 1 - p → agr n r (itr (fun j r => uS (if true then n - j else p + j) p r) P j) → am_Wp (d + 1) 87 24 [.ref 202, .int (nI n), .int (nI p), .int (nI (n - j))] [] (hp nS (am_row M 203 r)) Q := by
    intro p hp1 hpn P hout m
    induction m with
    | zero =>
      intro j r hj hr
      have : j = n + 1 - p := by omega
      subst this
      rw [b_87_24, if_pos (by rw [lt_n (by omega) (by omega)]; omega)]
      exact hout r _ hr
    | succ m ih =>
      intro j r hj hr
      rw [b_87_24, if_neg (by rw [lt_n (by omega) (by omega)]; omega), b_87_29 (by first | exact in_n (by omega) (by omega) | (simp only [li, nI_add, pk_mul]; exact in_n (by omega) (by omega))) (by rw [sub_n (by omega)]; exact in_n (by omega) (by omega)) (by first | exact in_n (by omega) (by omega) | (simp only [li, nI_add, pk_mul]; exact in_n (by omega) (by omega))), sub_n (by omega), cl_n (by omega), cl_n (by omega), row_same, up_row, add_m1, sub1 (by omega), show n - j - 1 = n - (j + 1) by omega]
      exact ih (j + 1) _ (by omega) (agr_up hr (by omega))
  have key : ∀ m i (r : Nat → Int32) z, i + m = n → agr n r (shA n 1 true i) → am_Wp (d + 1) 87 17 [.ref 202, .int (nI n), .int (nI (i + 1)), z] [] (hp nS (am_row M 203 r)) Q := by
    intro m
    induction m with
    | zero =>
      intro i r z hi hr
      have : i = n := by omega
      subst this
      rw [b_87_17, if_pos (by rw [lt_n (by omega) (by omega)]; omega), b_87_58 (by first | exact in_n (by omega) (by omega) | (simp only [li, nI_add, pk_mul]; exact in_n (by omega) (by omega))), cl_n (by omega), row_same, hr i (Nat.le_refl _)]
      exact hQ r
    | succ m ih =>
      intro i r z hi hr
      rw [b_87_17, if_neg (by rw [lt_n (by omega) (by omega)]; omega), b_87_22]
      have := inner (i + 1) (by omega) (by omega) (shA n 1 true i) (fun r' x3 hr' => ?_) (n + 1 - (i + 1)) 0 r (by omega) hr
      · exact this
      · rw [b_87_52, nI_1]
        refine ih (i + 1) r' _ (by omega) ?_
        have e : shA n 1 true (i + 1) = shP n true (i + 1) (shA n 1 true i) := by
          show shP n true (1 + i * 1) _ = _
          rw [show 1 + i * 1 = i + 1 by omega]
          rfl
        rw [e]
        exact hr'
  rw [b_87_0, fill_203, am_ans_none, b_87_8, up_row]
  refine key n 0 _ _ (by omega) (fun v hv => ?_)
  rw [upd_at]
  show _ = sh0 v
  unfold sh0
  by_cases e : v = 0
  · rw [if_pos e, if_pos e]
  · rw [if_neg e, if_neg e, if_pos (by omega)]
/-- the first number of steps that passes the most -/
def stp (most step K : Nat) : Prop := (∀ i, i < K → 1 + i * step ≤ most) ∧ most < 1 + K * step
theorem stp_ex (most step : Nat) (hs : 0 < step) : ∃ K, K ≤ most ∧ stp most step K := by
  refine ⟨(most + step - 1) / step, ?_, fun i hi => ?_, ?_⟩
  · rw [Nat.div_le_iff_le_mul_add_pred hs]
    have : most ≤ step * most := Nat.le_mul_of_pos_left most hs
    omega
  · have h1 : (i + 1) * step ≤ most + step - 1 := by
      have := (Nat.le_div_iff_mul_le hs).mp (show i + 1 ≤ (most + step - 1) / step by omega)
      exact this
    rw [Nat.succ_mul] at h1
    omega
  · have := Nat.lt_mul_div_succ (most + step - 1) hs
    have h2 : step * ((most + step - 1) / step + 1) = (most + step - 1) / step * step + step := by rw [Nat.mul_add, Nat.mul_comm, Nat.mul_one]
    omega
theorem x_parts {d nS n most step K : Nat} {odd : Bool} {M : am_M} {Q : Option Value → am_H → Prop} (hn : n ≤ 60) (hm : most ≤ 60) (hs : step = if odd then 2 else 1) (hK : stp most step K) (hQ : ∀ r, Q (some (.int (shA n step false K n))) (hp nS (am_row M 203 r))) : am_Wp (d + 1) 88 0 [.ref 202, .int (nI n), .int (nI most), .int (bI odd), .retAddr 0, .retAddr 0] [] (hp nS M) Q := by
  have hs2 : step ≤ 2 := by rw [hs]; cases odd <;> decide
  have inner : ∀ p, 1 ≤ p → ∀ P, (∀ (r : Nat → Int32) (x5 : Int32), agr n r (shP n false p P) → am_Wp (d + 1) 88 60 [.ref 202, .int (nI n), .int (nI most), .int (bI odd), .int (nI p), .int x5] [] (hp nS (am_row M 203 r)) Q) → p ≤ 60 → ∀ m j (r : Nat → Int32), j + m = n + 1 - p → agr n r (itr (fun j r => uS (if false then n - j else p + j) p r) P j) → am_Wp (d + 1) 88 28 [.ref 202, .int (nI n), .int (nI most), .int (bI odd), .int (nI p), .int (nI (p + j))] [] (hp nS (am_row M 203 r)) Q := by
    intro p hp1 P hout hp60 m
    induction m with
    | zero =>
      intro j r hj hr
      have : j = n + 1 - p := by omega
      subst this
      rw [b_88_28, if_pos (by rw [lt_n (by omega) (by omega)]; omega)]
      exact hout r _ hr
    | succ m ih =>
      intro j r hj hr
      rw [b_88_28, if_neg (by rw [lt_n (by omega) (by omega)]; omega), b_88_34 (by first | exact in_n (by omega) (by omega) | (simp only [li, nI_add, pk_mul]; exact in_n (by omega) (by omega))) (by rw [sub_n (by omega)]; exact in_n (by omega) (by omega)) (by first | exact in_n (by omega) (by omega) | (simp only [li, nI_add, pk_mul]; exact in_n (by omega) (by omega))), sub_n (by omega), cl_n (by omega), cl_n (by omega), row_same, up_row, nI_1]
      exact ih (j + 1) _ (by omega) (agr_up hr (by omega))
  have key : ∀ m i (r : Nat → Int32) z, i + m = K → agr n r (shA n step false i) → am_Wp (d + 1) 88 18 [.ref 202, .int (nI n), .int (nI most), .int (bI odd), .int (nI (1 + i * step)), z] [] (hp nS (am_row M 203 r)) Q := by
    intro m
    induction m with
    | zero =>
      intro i r z hi hr
      have : i = K := by omega
      subst this
      have hb : 1 + i * step ≤ 63 := by
        rcases Nat.eq_zero_or_pos i with h0 | h0
        · subst h0; omega
        · have := hK.1 (i - 1) (by omega)
          have e : i * step = (i - 1) * step + step := by
            rw [← Nat.succ_mul]; congr 1; omega
          omega
      rw [b_88_18, if_pos (by rw [lt_n (by omega) (by omega)]; exact hK.2), b_88_77 (by first | exact in_n (by omega) (by omega) | (simp only [li, nI_add, pk_mul]; exact in_n (by omega) (by omega))), cl_n (by omega), row_same, hr n (Nat.le_refl _)]
      exact hQ r
    | succ m ih =>
      intro i r z hi hr
      have hb := hK.1 i (by omega)
      rw [b_88_18, if_neg (by rw [lt_n (by omega) (by omega)]; omega), b_88_24]
      refine inner (1 + i * step) (by omega) (shA n step false i) (fun r' x5 hr' => ?_) (by omega) (n + 1 - (1 + i * step)) 0 r (by omega) hr
      rw [b_88_60]
      have fin : am_Wp (d + 1) 88 71 [.ref 202, .int (nI n), .int (nI most), .int (bI odd), .int (nI (1 + i * step)), .int x5] [.int (nI step), .int (nI (1 + i * step))] (hp nS (am_row M 203 r')) Q := by
        rw [b_88_71, nI_add, show 1 + i * step + step = 1 + (i + 1) * step by rw [Nat.succ_mul]; omega]
        exact ih (i + 1) r' _ (by omega) hr'
      cases odd with
      | false =>
        rw [if_pos (show bI false = 0 from rfl), b_88_70]
        subst hs
        exact fin
      | true =>
        rw [if_neg (by decide), b_88_66]
        subst hs
        exact fin
  rw [b_88_0, fill_203, am_ans_none, b_88_8, up_row]
  have := key K 0 (upd (fun k => if k < 61 then 0 else M 203 k) 0 1) (.retAddr 0) (by omega) (fun v hv => by
    rw [upd_at]
    show _ = sh0 v
    unfold sh0
    by_cases e : v = 0
    · rw [if_pos e, if_pos e]
    · rw [if_neg e, if_neg e, if_pos (by omega)])
  rw [show 1 + 0 * step = 1 by omega] at this
  exact this
theorem m_shares {d nS n most step K : Nat} {un odd : Bool} {M : am_M} {Q : Option Value → am_H → Prop} (hn : n ≤ 60) (hm : most ≤ 60) (hs : step = if odd then 2 else 1) (hK : stp most step K) (hQ : ∀ r, Q (some (.int (shA n step un K n))) (hp nS (am_row M 236 r))) : am_Wp d 287 0 [.ref 205, .int (nI n), .int (nI most), .int (bI un), .int (bI odd), .retAddr 0, .retAddr 0, .retAddr 0] [] (hp nS M) Q := by
  have hs2 : step ≤ 2 := by rw [hs]; cases odd <;> decide
  have inner : ∀ p, 1 ≤ p → ∀ P, (∀ (r : Nat → Int32) (x6 : Int32) z7, agr n r (shP n un p P) → am_Wp d 287 100 [.ref 205, .int (nI n), .int (nI most), .int (bI un), .int (bI odd), .int (nI p), .int x6, z7] [] (hp nS (am_row M 236 r)) Q) → p ≤ 60 → ∀ m j (r : Nat → Int32) z7, j + m = n + 1 - p → agr n r (itr (fun j r => uS (if un then n - j else p + j) p r) P j) → am_Wp d 287 45 [.ref 205, .int (nI n), .int (nI most), .int (bI un), .int (bI odd), .int (nI p), .int (nI (p + j)), z7] [] (hp nS (am_row M 236 r)) Q := by
    intro p hp1 P hout hp60 m
    induction m with
    | zero =>
      intro j r z7 hj hr
      have : j = n + 1 - p := by omega
      subst this
      rw [b_287_45, if_pos (by rw [lt_n (by omega) (by omega)]; omega)]
      exact hout r _ _ hr
    | succ m ih =>
      intro j r z7 hj hr
      rw [b_287_45, if_neg (by rw [lt_n (by omega) (by omega)]; omega), b_287_51]
      cases un with
      | false =>
        rw [if_pos (show bI false = 0 from rfl), b_287_65, b_287_67 (by first | exact in_n (by omega) (by omega) | (simp only [li, nI_add, pk_mul]; exact in_n (by omega) (by omega))) (by rw [sub_n (by omega)]; exact in_n (by omega) (by omega)) (by first | exact in_n (by omega) (by omega) | (simp only [li, nI_add, pk_mul]; exact in_n (by omega) (by omega))), sub_n (by omega), cl_n (by omega), cl_n (by omega), row_same, up_row, nI_1]
        exact ih (j + 1) _ _ (by omega) (agr_up hr (by omega))
      | true =>
        rw [if_neg (by decide), b_287_55, nI_add, sub_n (by omega), show n + p - (p + j) = n - j by omega, b_287_67 (by first | exact in_n (by omega) (by omega) | (simp only [li, nI_add, pk_mul]; exact in_n (by omega) (by omega))) (by rw [sub_n (by omega)]; exact in_n (by omega) (by omega)) (by first | exact in_n (by omega) (by omega) | (simp only [li, nI_add, pk_mul]; exact in_n (by omega) (by omega))), sub_n (by omega), cl_n (by omega), cl_n (by omega), row_same, up_row, nI_1]
        exact ih (j + 1) _ _ (by omega) (agr_up hr (by omega))
  have key : ∀ m i (r : Nat → Int32) z6 z7, i + m = K → agr n r (shA n step un i) → am_Wp d 287 35 [.ref 205, .int (nI n), .int (nI most), .int (bI un), .int (bI odd), .int (nI (1 + i * step)), z6, z7] [] (hp nS (am_row M 236 r)) Q := by
    intro m
    induction m with
    | zero =>
      intro i r z6 z7 hi hr
      have : i = K := by omega
      subst this
      have hb : 1 + i * step ≤ 63 := by
        rcases Nat.eq_zero_or_pos i with h0 | h0
        · subst h0; omega
        · have := hK.1 (i - 1) (by omega)
          have e : i * step = (i - 1) * step + step := by
            rw [← Nat.succ_mul]; congr 1; omega
          omega
      rw [b_287_35, if_pos (by rw [lt_n (by omega) (by omega)]; exact hK.2), b_287_118 (by first | exact in_n (by omega) (by omega) | (simp only [li, nI_add, pk_mul]; exact in_n (by omega) (by omega))), cl_n (by omega), row_same, hr n (Nat.le_refl _)]
      exact hQ r
    | succ m ih =>
      intro i r z6 z7 hi hr
      have hb := hK.1 i (by omega)
      rw [b_287_35, if_neg (by rw [lt_n (by omega) (by omega)]; omega), b_287_41]
      refine inner (1 + i * step) (by omega) (shA n step un i) (fun r' x6 z7 hr' => ?_) (by omega) (n + 1 - (1 + i * step)) 0 r _ (by omega) hr
      rw [b_287_100]
      have fin : am_Wp d 287 112 [.ref 205, .int (nI n), .int (nI most), .int (bI un), .int (bI odd), .int (nI (1 + i * step)), .int x6, z7] [.int (nI step), .int (nI (1 + i * step))] (hp nS (am_row M 236 r')) Q := by
        rw [b_287_112, nI_add, show 1 + i * step + step = 1 + (i + 1) * step by rw [Nat.succ_mul]; omega]
        exact ih (i + 1) r' _ _ (by omega) hr'
      cases odd with
      | false =>
        rw [if_pos (show bI false = 0 from rfl), b_287_111]
        subst hs
        exact fin
      | true =>
        rw [if_neg (by decide), b_287_107]
        subst hs
        exact fin
  have key0 : ∀ m v (r : Nat → Int32), v + m = n + 1 → (∀ j, j < v → r j = sh0 j) → am_Wp d 287 3 [.ref 205, .int (nI n), .int (nI most), .int (bI un), .int (bI odd), .int (nI v), .retAddr 0, .retAddr 0] [] (hp nS (am_row M 236 r)) Q := by
    intro m
    induction m with
    | zero =>
      intro v r hv hr
      rw [b_287_3, if_pos (by rw [lt_n (by omega) (by omega)]; omega), b_287_32]
      have := key K 0 r (.retAddr 0) (.retAddr 0) (by omega) (fun v hv => hr v (by omega))
      rw [show 1 + 0 * step = 1 by omega] at this
      exact this
    | succ m ih =>
      intro v r hv hr
      have put : ∀ x : Int32, x = sh0 v → am_Wp d 287 25 [.ref 205, .int (nI n), .int (nI most), .int (bI un), .int (bI odd), .int (nI v), .retAddr 0, .retAddr 0] [.int x, .int (nI v), .ref 236] (hp nS (am_row M 236 r)) Q := by
        intro x hx
        rw [b_287_25 (by first | exact in_n (by omega) (by omega) | (simp only [li, nI_add, pk_mul]; exact in_n (by omega) (by omega))), cl_n (by omega), up_row, nI_1]
        refine ih (v + 1) _ (by omega) (fun j hj => ?_)
        rw [upd_at]
        by_cases e : j = v
        · rw [if_pos e, hx, e]
        · rw [if_neg e, hr j (by omega)]
      rw [b_287_3, if_neg (by rw [lt_n (by omega) (by omega)]; omega), b_287_9]
      by_cases e : v = 0
      · rw [if_neg (fun z => z (by rw [e]; rfl)), b_287_20]
        exact put 1 (by rw [sh0, if_pos e])
      · rw [if_pos (nI_ne0 (by omega) (by omega)), b_287_24]
        exact put 0 (by rw [sh0, if_neg e])
  rw [b_287_0, ← row_id M 236]
  exact key0 (n + 1) 0 _ (by omega) (fun j hj => by omega)
end
