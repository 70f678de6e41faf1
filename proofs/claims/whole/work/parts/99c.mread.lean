section
/-! THE MODEL READS A TOKEN -/
abbrev TM (M : am_M) (n : Nat) (tp : Nat → Nat) : Prop := (M 205 15 = nI n) ∧ (∀ k, k < n → M 212 k = nI (tp k)) ∧ (n ≤ 400) ∧ (∀ k, k < n → tp k < 256) ∧ (∀ k, k < 128 → M 213 k = wdT k)
theorem TM.n {M : am_M} {n : Nat} {tp : Nat → Nat} (zz : TM M n tp) : M 205 15 = nI n := zz.1
theorem TM.t {M : am_M} {n : Nat} {tp : Nat → Nat} (zz : TM M n tp) : ∀ k, k < n → M 212 k = nI (tp k) := zz.2.1
theorem TM.l {M : am_M} {n : Nat} {tp : Nat → Nat} (zz : TM M n tp) : n ≤ 400 := zz.2.2.1
theorem TM.b {M : am_M} {n : Nat} {tp : Nat → Nat} (zz : TM M n tp) : ∀ k, k < n → tp k < 256 := zz.2.2.2.1
theorem TM.w {M : am_M} {n : Nat} {tp : Nat → Nat} (zz : TM M n tp) : ∀ k, k < 128 → M 213 k = wdT k := zz.2.2.2.2
def rwB (tp : Nat → Nat) (n i : Nat) : Int32 := if i < n then nI (tp i) else -1
theorem m_raw {d nS n i : Nat} {tp : Nat → Nat} {M : am_M} {Q : Option Value → am_H → Prop} (hT : TM M n tp) (hi : i ≤ 400) : am_Wp d 186 0 [.ref 205, .int (nI i)] [] (hp nS M) Q = Q (some (.int (rwB tp n i))) (hp nS M) := by
  have hl := hT.l
  have h0 : (M 205 15 ≤ nI i) = (n ≤ i) := by rw [hT.n, le_n (by omega) (by omega)]
  rw [c_186 (fun h => by rw [h0] at h; exact in_n (by omega) (by omega)), hT.n, cl_n (by omega)]
  refine congrArg (fun v => Q (some (.int v)) (hp nS M)) ?_
  unfold rwB
  by_cases c : i < n
  · rw [if_neg (by rw [le_n (by omega) (by omega)]; omega), if_pos c, hT.t i c]
  · rw [if_pos (by rw [le_n (by omega) (by omega)]; omega), if_neg c]
theorem m_isA {d nS n i : Nat} {tp : Nat → Nat} {M : am_M} {Q : Option Value → am_H → Prop} (hb : ∀ k, k < n → tp k < 256) : am_Wp (d + 1) 187 0 [.ref 205, .int (rwB tp n i)] [] (hp nS M) Q = Q (some (.int (bI (decide (i < n) && isA (tp i))))) (hp nS M) := by
  rw [c_187]
  refine congrArg (fun v => Q (some (.int v)) (hp nS M)) (ite_b ?_)
  unfold rwB
  by_cases c : i < n
  · rw [if_pos c, decide_eq_true c, Bool.true_and]; exact isA_i (hb i c)
  · rw [if_neg c, decide_eq_false c, Bool.false_and]
    exact ⟨fun z => z.elim (fun z => absurd (by decide) z.1) (fun z => absurd (by decide) z.1), fun z => by cases z⟩
theorem m_isD {d nS n i : Nat} {tp : Nat → Nat} {M : am_M} {Q : Option Value → am_H → Prop} (hb : ∀ k, k < n → tp k < 256) : am_Wp (d + 1) 189 0 [.ref 205, .int (rwB tp n i)] [] (hp nS M) Q = Q (some (.int (bI (decide (i < n) && isD (tp i))))) (hp nS M) := by
  rw [c_189]
  refine congrArg (fun v => Q (some (.int v)) (hp nS M)) (ite_b ?_)
  unfold rwB
  by_cases c : i < n
  · rw [if_pos c, decide_eq_true c, Bool.true_and]; exact isD_i (hb i c)
  · rw [if_neg c, decide_eq_false c, Bool.false_and]
    exact ⟨fun z => absurd (by decide) z.1, fun z => by cases z⟩
theorem fdW_lt (p : Nat → Prop) : ∀ m i j, i ≤ j → j < i + m → p j → fdW p m i < i + m
  | 0, i, j, h1, h2, _ => by omega
  | m + 1, i, j, h1, h2, hpj => by
    by_cases c : p i
    · rw [fdW_t c]; omega
    · rw [fdW_f c]
      have hne : j ≠ i := fun z => c (z ▸ hpj)
      have := fdW_lt p m (i + 1) j (by omega) (by omega) hpj
      omega
theorem fdW_p (p : Nat → Prop) : ∀ m i, fdW p m i < i + m → p (fdW p m i)
  | 0, i, h => by have h : i < i + 0 := h; omega
  | m + 1, i, h => by
    by_cases c : p i
    · rw [fdW_t c]; exact c
    · rw [fdW_f c] at h ⊢
      exact fdW_p p m (i + 1) (by omega)
theorem sg_lt {b j : Nat} (hj : j < 10) (h : sgB j = b) : sgI b < 10 := by
  have := fdW_lt (fun j => sgB j = b) 10 0 j (Nat.zero_le _) (by omega) h
  unfold sgI
  omega
theorem sg_B {b : Nat} (h : sgI b < 10) : sgB (sgI b) = b := fdW_p (fun j => sgB j = b) 10 0 (by unfold sgI at h; omega)
theorem m_mark {d nS b : Nat} {M : am_M} {Q : Option Value → am_H → Prop} (hb : b < 256) : am_Wp d 190 0 [.ref 205, .int (nI b)] [] (hp nS M) Q = Q (some (.int (bI (decide (sgI b < 10))))) (hp nS M) := by
  have e : ∀ k : Nat, k < 256 → (nI b = nI k) = (b = k) := fun k hk => eq_n (by omega) (by omega)
  have yes : ∀ j, j < 10 → sgB j = b → am_Wp d 190 60 [.ref 205, .int (nI b)] [] (hp nS M) Q = Q (some (.int (bI (decide (sgI b < 10))))) (hp nS M) := fun j hj h => by
    rw [b_190_60, b_190_65 rok1, decide_eq_true (sg_lt hj h)]; rfl
  rw [b_190_0]
  by_cases c0 : b = 59
  · rw [if_pos (by rw [c0]; rfl)]; exact yes 0 (by omega) c0.symm
  rw [if_neg (by rw [li, e _ (by omega)]; exact c0), b_190_6]
  by_cases c1 : b = 43
  · rw [if_pos (by rw [c1]; rfl)]; exact yes 1 (by omega) c1.symm
  rw [if_neg (by rw [li, e _ (by omega)]; exact c1), b_190_12]
  by_cases c2 : b = 45
  · rw [if_pos (by rw [c2]; rfl)]; exact yes 2 (by omega) c2.symm
  rw [if_neg (by rw [li, e _ (by omega)]; exact c2), b_190_18]
  by_cases c3 : b = 42
  · rw [if_pos (by rw [c3]; rfl)]; exact yes 3 (by omega) c3.symm
  rw [if_neg (by rw [li, e _ (by omega)]; exact c3), b_190_24]
  by_cases c4 : b = 47
  · rw [if_pos (by rw [c4]; rfl)]; exact yes 4 (by omega) c4.symm
  rw [if_neg (by rw [li, e _ (by omega)]; exact c4), b_190_30]
  by_cases c5 : b = 40
  · rw [if_pos (by rw [c5]; rfl)]; exact yes 5 (by omega) c5.symm
  rw [if_neg (by rw [li, e _ (by omega)]; exact c5), b_190_36]
  by_cases c6 : b = 41
  · rw [if_pos (by rw [c6]; rfl)]; exact yes 6 (by omega) c6.symm
  rw [if_neg (by rw [li, e _ (by omega)]; exact c6), b_190_42]
  by_cases c7 : b = 60
  · rw [if_pos (by rw [c7]; rfl)]; exact yes 7 (by omega) c7.symm
  rw [if_neg (by rw [li, e _ (by omega)]; exact c7), b_190_48]
  by_cases c8 : b = 61
  · rw [if_pos (by rw [c8]; rfl)]; exact yes 8 (by omega) c8.symm
  rw [if_neg (by rw [li, e _ (by omega)]; exact c8), b_190_54]
  by_cases c9 : b = 62
  · rw [if_neg (fun z => z (by rw [c9]; rfl))]; exact yes 9 (by omega) c9.symm
  have no : ¬ sgI b < 10 := fun h => by
    have hB := sg_B h
    have : sgI b = 0 ∨ sgI b = 1 ∨ sgI b = 2 ∨ sgI b = 3 ∨ sgI b = 4 ∨ sgI b = 5 ∨ sgI b = 6 ∨ sgI b = 7 ∨ sgI b = 8 ∨ sgI b = 9 := by omega
    rcases this with q | q | q | q | q | q | q | q | q | q <;> rw [q] at hB
    · exact c0 hB.symm
    · exact c1 hB.symm
    · exact c2 hB.symm
    · exact c3 hB.symm
    · exact c4 hB.symm
    · exact c5 hB.symm
    · exact c6 hB.symm
    · exact c7 hB.symm
    · exact c8 hB.symm
    · exact c9 hB.symm
  rw [if_pos (by rw [li, e _ (by omega)]; exact c9), b_190_64, b_190_65 rok0, decide_eq_false no]
  rfl
/-! the words, one behind another -/
def offW : Nat → Nat
  | 0 => 0
  | w + 1 => offW w + wL w + 1
theorem fin_off : (List.range 26).all (fun w => decide (offW w < 127) && decide (offW w + 1 + wL w < 128) && (List.range 7).all (fun i => decide (i ≤ wL w → wdT (offW w + 1 + i) = nI (wC w i)) && decide (wC w i < 256))) = true := by decide +kernel
theorem off_at {w : Nat} (hw : w < 26) : offW w < 127 ∧ offW w + 1 + wL w < 128 ∧ ∀ i, i ≤ wL w → wdT (offW w + 1 + i) = nI (wC w i) ∧ wC w i < 256 := by
  have h := List.all_eq_true.mp fin_off w (List.mem_range.mpr hw)
  simp only [Bool.and_eq_true, decide_eq_true_eq] at h
  have w6 := (wl_at hw).1
  refine ⟨h.1.1, h.1.2, fun i hi => ?_⟩
  have := List.all_eq_true.mp h.2 i (List.mem_range.mpr (by omega))
  rw [Bool.and_eq_true, decide_eq_true_eq, decide_eq_true_eq] at this
  exact ⟨this.1 hi, this.2⟩
theorem m_word {d nS n a z : Nat} {tp : Nat → Nat} {M : am_M} {Q : Option Value → am_H → Prop} (hT : TM M n tp) (haz : a < z) (hz : z ≤ n) (hl : ∀ k, a ≤ k → k < z → isA (tp k) = true) (hq : Q (some (.int (if kwI tp a z < 26 then nI (kwI tp a z) else -1))) (hp nS M)) : am_Wp d 188 0 [.ref 205, .int (nI a), .int (nI z), .retAddr 0, .retAddr 0, .retAddr 0] [] (hp nS M) Q := by
  have hl4 := hT.l
  have key : ∀ m w zz, w + m = 26 → fdW (mtW tp a z) m w = kwI tp a z → am_Wp d 188 5 [.ref 205, .int (nI a), .int (nI z), .int (nI w - 1), .int (nI (offW w)), zz] [] (hp nS M) Q := by
    intro m
    induction m with
    | zero =>
      intro w zz hw hk
      have : w = 26 := by omega
      subst this
      have hk : 26 = kwI tp a z := hk
      rw [if_neg (by omega)] at hq
      rw [b_188_5, if_pos (by decide), b_188_117]
      exact hq
    | succ m ih =>
      intro w zz hw hk
      obtain ⟨o1, o2, o3⟩ := off_at (show w < 26 by omega)
      obtain ⟨w6, w1, wc⟩ := wl_at (show w < 26 by omega)
      have wd : ∀ i, i ≤ wL w → M 213 (offW w + 1 + i) = nI (wC w i) := fun i hi => by rw [hT.w _ (by omega)]; exact (o3 i hi).1
      have ei : ∀ i, nI (offW w) + 1 + nI i = nI (offW w + 1 + i) := fun i => by rw [nI_1, nI_add]
      have nxt : ¬ mtW tp a z w → ∀ i, am_Wp d 188 87 [.ref 205, .int (nI a), .int (nI z), .int (nI w), .int (nI (offW w)), .int (nI i)] [] (hp nS M) Q := by
        intro c i
        rw [fdW_f c] at hk
        have lp : ∀ m q, q + m = wL w → am_Wp d 188 93 [.ref 205, .int (nI a), .int (nI z), .int (nI w), .int (nI (offW w + 1 + q)), .int (nI i)] [] (hp nS M) Q := by
          intro m'
          induction m' with
          | zero =>
            intro q hq'
            have : q = wL w := by omega
            subst this
            have e32 : wC w (wL w) = 32 := by rw [wc (wL w) (by omega)]; exact Nat.le_refl _
            rw [b_188_93 (by first | exact in_n (by omega) (by omega) | (simp only [li, nI_add, pk_mul]; exact in_n (by omega) (by omega))), cl_n (by omega), wd _ (Nat.le_refl _), if_pos (by rw [e32]; rfl), b_188_114]
            have := ih (w + 1) (.int (nI i)) (by omega) hk
            rw [sub1 (by omega)] at this
            rw [show offW w + 1 + wL w = offW (w + 1) by rw [offW]; omega]
            exact this
          | succ m' ih' =>
            intro q hq'
            have n32 : ¬ wC w q = 32 := by rw [wc q (by omega)]; omega
            have cb := (o3 q (by omega)).2
            rw [b_188_93 (by first | exact in_n (by omega) (by omega) | (simp only [li, nI_add, pk_mul]; exact in_n (by omega) (by omega))), cl_n (by omega), wd q (by omega), if_neg (by rw [li, eq_n (by omega) (by omega)]; exact n32), b_188_105, nI_1]
            exact ih' (q + 1) (by omega)
        rw [b_188_87, nI_1]
        exact lp (wL w) 0 (by omega)
      have at60 : ∀ i, a + i ≤ z → i ≤ wL w → (∀ q, q < i → tp (a + q) = wC w q) → (a + i < z → wC w i ≠ tp (a + i)) → am_Wp d 188 60 [.ref 205, .int (nI a), .int (nI z), .int (nI w), .int (nI (offW w)), .int (nI i)] [] (hp nS M) Q := by
        intro i h1 h2 h3 h4
        rw [b_188_60, nI_add]
        by_cases c : a + i = z
        · rw [if_neg (fun q => q (by rw [c])), b_188_68 (by rw [ei]; exact in_n (by omega) (by omega)), ei, cl_n (by omega), wd i h2]
          have cb := (o3 i h2).2
          by_cases c32 : wL w ≤ i
          · have m1 : mtW tp a z w := ⟨by omega, fun q hq' => h3 q (by omega)⟩
            rw [fdW_t m1] at hk
            rw [if_pos (by omega), ← hk] at hq
            have e32 : wC w i = 32 := by rw [wc i (by omega)]; exact c32
            rw [if_neg (fun q => q (by rw [e32]; rfl)), b_188_85]
            exact hq
          · have n32 : ¬ wC w i = 32 := by rw [wc i (by omega)]; exact c32
            rw [if_pos (by rw [li, eq_n (by omega) (by omega)]; exact n32)]
            exact nxt (fun q => by have := q.1; omega) i
        · rw [if_pos (by rw [eq_n (by omega) (by omega)]; exact c)]
          exact nxt (fun q => h4 (by omega) (q.2 i (by omega)).symm) i
      have lp : ∀ m' i, i + m' = z - a → i ≤ wL w → (∀ q, q < i → tp (a + q) = wC w q) → am_Wp d 188 19 [.ref 205, .int (nI a), .int (nI z), .int (nI w), .int (nI (offW w)), .int (nI i)] [] (hp nS M) Q := by
        intro m'
        induction m' with
        | zero =>
          intro i hi h2 h3
          rw [b_188_19, nI_add, if_pos (by rw [le_n (by omega) (by omega)]; omega)]
          exact at60 i (by omega) h2 h3 (fun z => by omega)
        | succ m' ih' =>
          intro i hi h2 h3
          have tb := hT.b (a + i) (by omega)
          have cb := (o3 i h2).2
          rw [b_188_19, nI_add, if_neg (by rw [le_n (by omega) (by omega)]; omega), b_188_27 (by rw [ei]; exact in_n (by omega) (by omega)) (by rw [nI_add]; exact in_n (by omega) (by omega)), ei, nI_add, cl_n (by omega), cl_n (by omega), wd i h2, hT.t (a + i) (by omega)]
          by_cases c : wC w i = tp (a + i)
          · have h32 : ¬ wL w ≤ i := fun q => by
              have e32 : wC w i = 32 := by rw [wc i (by omega)]; exact q
              exact isA_32 (hl (a + i) (by omega) (by omega)) (c.symm.trans e32)
            rw [if_neg (fun q => q (by rw [c])), b_188_51, nI_1]
            refine ih' (i + 1) (by omega) (by omega) (fun q hq' => ?_)
            by_cases e : q = i
            · rw [e, c]
            · exact h3 q (by omega)
          · rw [if_pos (by rw [eq_n (by omega) (by omega)]; exact c)]
            exact at60 i (by omega) h2 h3 (fun _ => c)
      rw [b_188_5, if_neg (by rw [li, le_n (by omega) (by omega)]; omega), b_188_12, Int32.sub_add_cancel]
      exact lp (z - a) 0 (by omega) (by omega) (fun q hq' => by omega)
  rw [b_188_0]
  exact key 26 0 _ (by omega) rfl
/-- which token the model has read: of the program's kinds -/
abbrev MTa (M : am_M) (k v : Nat) : Prop := (k < 26 → M 205 18 = 2 ∧ M 205 19 = nI k) ∧ (26 ≤ k → k < 36 → M 205 18 = 4 ∧ M 205 19 = nI (sgB (k - 26))) ∧ (k = 36 → M 205 18 = 3 ∧ M 205 19 = nI v) ∧ (k = 37 → M 205 18 = 0) ∧ (k = 38 → M 205 18 = 1)
theorem MTa.w {M : am_M} {k v : Nat} (zz : MTa M k v) : k < 26 → M 205 18 = 2 ∧ M 205 19 = nI k := zz.1
theorem MTa.s {M : am_M} {k v : Nat} (zz : MTa M k v) : 26 ≤ k → k < 36 → M 205 18 = 4 ∧ M 205 19 = nI (sgB (k - 26)) := zz.2.1
theorem MTa.n {M : am_M} {k v : Nat} (zz : MTa M k v) : k = 36 → M 205 18 = 3 ∧ M 205 19 = nI v := zz.2.2.1
theorem MTa.e {M : am_M} {k v : Nat} (zz : MTa M k v) : k = 37 → M 205 18 = 0 := zz.2.2.2.1
theorem MTa.o {M : am_M} {k v : Nat} (zz : MTa M k v) : k = 38 → M 205 18 = 1 := zz.2.2.2.2
def mS (tp : Nat → Nat) (n j : Nat) : Nat := if ps tp n j < n then tkE tp n (ps tp n j) else n
abbrev ATa (tp : Nat → Nat) (n j : Nat) (M : am_M) : Prop := (M 205 17 = nI (ps tp n j)) ∧ (M 205 16 = nI (mS tp n j)) ∧ (MTa M (kK tp n j) (kV tp n j))
theorem ATa.f {tp : Nat → Nat} {n j : Nat} {M : am_M} (zz : ATa tp n j M) : M 205 17 = nI (ps tp n j) := zz.1
theorem ATa.s {tp : Nat → Nat} {n j : Nat} {M : am_M} (zz : ATa tp n j M) : M 205 16 = nI (mS tp n j) := zz.2.1
theorem ATa.k {tp : Nat → Nat} {n j : Nat} {M : am_M} (zz : ATa tp n j M) : MTa M (kK tp n j) (kV tp n j) := zz.2.2
theorem mS_le (tp : Nat → Nat) (n j : Nat) : mS tp n j ≤ n := by
  unfold mS
  by_cases h : ps tp n j < n
  · rw [if_pos h]; exact tkE_le tp h
  · rw [if_neg h]; exact Nat.le_refl _
theorem mS_ps (tp : Nat → Nat) (n j : Nat) : rE isB tp n (mS tp n j) = ps tp n (j + 1) := by
  have hl := ps_le tp n j
  unfold mS
  rw [ps]
  by_cases h : ps tp n j < n
  · rw [if_pos h, if_pos h]
  · rw [if_neg h, if_neg h, rE_f (by omega)]; omega
def Fr (M0 M : am_M) : Prop := ∀ a k, ¬ (a = 205 ∧ (k = 16 ∨ k = 17 ∨ k = 18 ∨ k = 19)) → M a k = M0 a k
theorem Fr_up {M0 M : am_M} (h : Fr M0 M) {k : Nat} (v : Int32) (hk : k = 16 ∨ k = 17 ∨ k = 18 ∨ k = 19) : Fr M0 (am_up M 205 k v) := fun a q hq => by rw [up_pt _ _ (by omega)]; exact h a q hq
theorem TM_f {M0 M : am_M} {n : Nat} {tp : Nat → Nat} (h : TM M0 n tp) (f : Fr M0 M) : TM M n tp := ⟨by rw [f _ _ (by omega)]; exact h.n, fun k hk => by rw [f _ _ (by omega)]; exact h.t k hk, h.l, h.b, fun k hk => by rw [f _ _ (by omega)]; exact h.w k hk⟩
theorem m_readsA {d nS n p j : Nat} {tp : Nat → Nat} {M : am_M} {Q : Option Value → am_H → Prop} (hT : TM M n tp) (h16 : M 205 16 = nI p) (hpn : p ≤ n) (hj : rE isB tp n p = ps tp n j) (hQ : ∀ M', ATa tp n j M' → Fr M M' → Q none (hp nS M')) : am_Wp (d + 3) 185 0 [.ref 205, .retAddr 0] [] (hp nS M) Q := by
  have hl := hT.l
  have fin : ∀ x1 N, ATa tp n j N → Fr M N → am_Wp (d + 3) 185 273 [.ref 205, .int x1] [] (hp nS N) Q := by
    intro x1 N h f
    rw [b_185_273]
    exact hQ N h f
  have key : ∀ m p N, n - p = m → p ≤ n → N 205 16 = nI p → rE isB tp n p = ps tp n j → Fr M N → am_Wp (d + 3) 185 8 [.ref 205, .retAddr 0] [.int (rwB tp n p)] (hp nS N) Q := by
    intro m
    induction m with
    | zero =>
      intro p N hm hpn h16 hj f
      have : p = n := by omega
      subst this
      have hT' := TM_f hT f
      have hr : rwB tp p p = -1 := by unfold rwB; rw [if_neg (by omega)]
      rw [rE_f (by omega)] at hj
      have u16 : am_up (am_up N 205 17 (N 205 16)) 205 18 1 205 16 = nI p := by rw [up_pt _ _ (by omega), up_pt _ _ (by omega), h16]
      rw [hr, b_185_8, if_neg (by decide), b_185_13, h16, m_raw hT' (by omega), am_ans_some, hr, b_185_21, if_pos (by decide), b_185_39, u16, m_raw (TM_f hT (Fr_up (Fr_up f _ (by omega)) _ (by omega))) (by omega), am_ans_some, hr, b_185_60, if_neg (fun z => z rfl), b_185_66, h16]
      have eK : kK tp p j = 37 := kK_37.mpr hj.symm
      refine hQ _ ⟨by rw [up_pt _ _ (by omega), up_pt _ _ (by omega), up_same, upd_same, ← hj], ?_, ⟨fun z => by rw [eK] at z; omega, fun _ z => by rw [eK] at z; omega, fun z => by rw [eK] at z; omega, fun _ => by rw [up_same, upd_same], fun z => by rw [eK] at z; omega⟩⟩ (Fr_up (Fr_up (Fr_up f _ (by omega)) _ (by omega)) _ (by omega))
      rw [up_pt _ _ (by omega), up_pt _ _ (by omega), up_pt _ _ (by omega), h16]
      unfold mS
      rw [← hj, if_neg (by omega)]
    | succ m ih =>
      intro p N hm hpn h16 hj f
      have hpn' : p < n := by omega
      have hT' := TM_f hT f
      have tb := hT.b p hpn'
      have hr : rwB tp n p = nI (tp p) := by unfold rwB; rw [if_pos hpn']
      have skip : isB (tp p) = true → am_Wp (d + 3) 185 26 [.ref 205, .retAddr 0] [] (hp nS N) Q := by
        intro hB
        have u16 : am_up N 205 16 (nI (p + 1)) 205 16 = nI (p + 1) := by rw [up_same, upd_same]
        rw [b_185_26, h16, nI_1, u16, m_raw (TM_f hT (Fr_up f _ (by omega))) (by omega), am_ans_some]
        refine ih (p + 1) _ (by omega) (by omega) u16 ?_ (Fr_up f _ (by omega))
        rw [← rE_t hpn' hB]; exact hj
      rw [hr, b_185_8]
      by_cases c32 : tp p = 32
      · rw [if_pos (by rw [c32]; rfl)]
        exact skip (by unfold isB; rw [c32]; decide)
      rw [if_neg (by rw [li, eq_n (by omega) (by omega)]; exact c32), b_185_13, h16, m_raw hT' (by omega), am_ans_some, hr, b_185_21]
      by_cases c10 : tp p = 10
      · rw [if_neg (fun z => z (by rw [c10]; rfl))]
        exact skip (by unfold isB; rw [c10]; decide)
      have nB : isB (tp p) = false := by unfold isB; rw [decide_eq_false c32, decide_eq_false c10]; rfl
      rw [rE_f (fun z => by rw [nB] at z; cases z.2)] at hj
      have hE := tkE_gt tp n p
      have hE2 := tkE_le tp hpn'
      have eK : kK tp n j = tkK tp n p := by unfold kK; rw [← hj, if_pos hpn']
      have eV : kV tp n j = tkV tp n p := by unfold kV; rw [← hj]
      have eS : mS tp n j = tkE tp n p := by unfold mS; rw [← hj, if_pos hpn']
      have u16 : am_up (am_up N 205 17 (nI p)) 205 18 1 205 16 = nI p := by rw [up_pt _ _ (by omega), up_pt _ _ (by omega), h16]
      rw [if_pos (by rw [li, eq_n (by omega) (by omega)]; exact c10), b_185_39, h16, u16, m_raw (TM_f hT (Fr_up (Fr_up f _ (by omega)) _ (by omega))) (by omega), am_ans_some, hr, b_185_60, if_pos (nI_m1 (by omega)), b_185_72, u16, nI_1]
      have g16 : am_up (am_up (am_up (am_up N 205 17 (nI p)) 205 18 1) 205 16 (nI (p + 1))) 205 19 (nI (tp p)) 205 16 = nI (p + 1) := by rw [up_pt _ _ (by omega), up_same, upd_same]
      have g17 : am_up (am_up (am_up (am_up N 205 17 (nI p)) 205 18 1) 205 16 (nI (p + 1))) 205 19 (nI (tp p)) 205 17 = nI p := by rw [up_pt _ _ (by omega), up_pt _ _ (by omega), up_pt _ _ (by omega), up_same, upd_same]
      have g18 : am_up (am_up (am_up (am_up N 205 17 (nI p)) 205 18 1) 205 16 (nI (p + 1))) 205 19 (nI (tp p)) 205 18 = 1 := by rw [up_pt _ _ (by omega), up_pt _ _ (by omega), up_same, upd_same]
      have g19 : am_up (am_up (am_up (am_up N 205 17 (nI p)) 205 18 1) 205 16 (nI (p + 1))) 205 19 (nI (tp p)) 205 19 = nI (tp p) := by rw [up_same, upd_same]
      have gf := Fr_up (Fr_up (Fr_up (Fr_up f (nI p) (k := 17) (by omega)) 1 (k := 18) (by omega)) (nI (p + 1)) (k := 16) (by omega)) (nI (tp p)) (k := 19) (by omega)
      generalize am_up (am_up (am_up (am_up N 205 17 (nI p)) 205 18 1) 205 16 (nI (p + 1))) 205 19 (nI (tp p)) = N2 at *
      rw [← hr, m_isA hT.b, am_ans_some, b_185_92, decide_eq_true hpn', Bool.true_and]
      have kE := eK
      unfold tkK at kE
      cases ha : isA (tp p) with
      | true =>
        have hd : isD (tp p) = false := by
          cases hd : isD (tp p) with
          | true => rw [DA_no hd] at ha; cases ha
          | false => rfl
        rw [hd, ha, if_neg (by decide), if_pos rfl] at kE
        have eE : tkE tp n p = rE isA tp n (p + 1) := by unfold tkE; rw [hd, ha, if_neg (by decide), if_pos rfl]
        have hlet : ∀ k, p ≤ k → k < tkE tp n p → isA (tp k) = true := fun k h1 h2 => by
          by_cases e : k = p
          · rw [e]; exact ha
          · exact rE_all (n := n) (i := p + 1) (by omega) (by omega)
        have wend : ∀ N, N 205 16 = nI (tkE tp n p) → N 205 17 = nI p → N 205 18 = 1 → Fr M N → am_Wp (d + 3) 185 123 [.ref 205, .int (rwB tp n p)] [] (hp nS N) Q := by
          intro N k16 k17 k18 kf
          rw [b_185_123, k17, k16]
          refine m_word (TM_f hT kf) hE hE2 hlet ?_
          rw [am_ans_some, b_185_136, up_same, upd_same]
          by_cases c : kwI tp p (tkE tp n p) < 26
          · rw [if_pos c] at kE
            rw [if_pos c, if_neg (nI_m1 (by omega)), b_185_147]
            refine fin _ _ ⟨by rw [up_pt _ _ (by omega), up_pt _ _ (by omega), k17, ← hj], by rw [up_pt _ _ (by omega), up_pt _ _ (by omega), k16, eS], ⟨fun _ => ⟨by rw [up_same, upd_same], by rw [up_pt _ _ (by omega), up_same, upd_same, kE]⟩, fun z => by rw [kE] at z; omega, fun z => by rw [kE] at z; omega, fun z => by rw [kE] at z; omega, fun z => by rw [kE] at z; omega⟩⟩ (Fr_up (Fr_up kf _ (by omega)) _ (by omega))
          · rw [if_neg c] at kE
            rw [if_neg c, if_pos rfl]
            refine fin _ _ ⟨by rw [up_pt _ _ (by omega), k17, ← hj], by rw [up_pt _ _ (by omega), k16, eS], ⟨fun z => by rw [kE] at z; omega, fun _ z => by rw [kE] at z; omega, fun z => by rw [kE] at z; omega, fun z => by rw [kE] at z; omega, fun _ => by rw [up_pt _ _ (by omega), k18]⟩⟩ (Fr_up kf _ (by omega))
        have lp : ∀ m s N, n - s = m → p < s → s ≤ n → rE isA tp n s = tkE tp n p → N 205 16 = nI s → N 205 17 = nI p → N 205 18 = 1 → Fr M N → am_Wp (d + 3) 185 95 [.ref 205, .int (rwB tp n p)] [] (hp nS N) Q := by
          intro m
          induction m with
          | zero =>
            intro s N hm hs1 hs2 hE3 k16 k17 k18 kf
            rw [rE_f (by omega)] at hE3
            rw [b_185_95, k16, m_raw (TM_f hT kf) (by omega), am_ans_some, b_185_104, m_isA hT.b, am_ans_some, b_185_107, decide_eq_false (show ¬ s < n by omega), Bool.false_and, if_pos (show bI false = 0 from rfl)]
            exact wend N (by rw [k16, hE3]) k17 k18 kf
          | succ m ih2 =>
            intro s N hm hs1 hs2 hE3 k16 k17 k18 kf
            rw [b_185_95, k16, m_raw (TM_f hT kf) (by omega), am_ans_some, b_185_104, m_isA hT.b, am_ans_some, b_185_107, decide_eq_true (show s < n by omega), Bool.true_and]
            cases has : isA (tp s) with
            | true =>
              rw [if_neg (show ¬ bI true = 0 by decide), b_185_110, k16, nI_1]
              exact ih2 (s + 1) _ (by omega) (by omega) (by omega) (by rw [← rE_t (by omega) has]; exact hE3) (by rw [up_same, upd_same]) (by rw [up_pt _ _ (by omega)]; exact k17) (by rw [up_pt _ _ (by omega)]; exact k18) (Fr_up kf _ (by omega))
            | false =>
              rw [rE_f (fun z => by rw [has] at z; cases z.2)] at hE3
              rw [if_pos (show bI false = 0 from rfl)]
              exact wend N (by rw [k16, hE3]) k17 k18 kf
        rw [if_neg (show ¬ bI true = 0 by decide)]
        exact lp (n - (p + 1)) (p + 1) N2 rfl (by omega) (by omega) eE.symm g16 g17 g18 gf
      | false =>
        rw [if_pos (show bI false = 0 from rfl), b_185_155, m_isD hT.b, am_ans_some, b_185_160, decide_eq_true hpn', Bool.true_and]
        cases hd : isD (tp p) with
        | true =>
          rw [hd, if_pos rfl] at kE
          have eE : tkE tp n p = rE isD tp n (p + 1) := by unfold tkE; rw [hd, if_pos rfl]
          have hdig : ∀ k, p ≤ k → k < tkE tp n p → 48 ≤ tp k ∧ tp k ≤ 57 := fun k h1 h2 => by
            have : isD (tp k) = true := by
              by_cases e : k = p
              · rw [e]; exact hd
              · exact rE_all (n := n) (i := p + 1) (by omega) (by omega)
            unfold isD at this
            rw [Bool.and_eq_true, decide_eq_true_eq, decide_eq_true_eq] at this
            exact this
          have dend : ∀ N v, (tkE tp n p - p ≤ 4 → v = nI (vlN tp p (tkE tp n p - p))) → N 205 16 = nI (tkE tp n p) → N 205 17 = nI p → N 205 18 = 1 → N 205 19 = v → Fr M N → am_Wp (d + 3) 185 239 [.ref 205, .int (rwB tp n p)] [] (hp nS N) Q := by
            intro N v hv k16 k17 k18 k19 kf
            rw [b_185_239, k16, k17, sub_n (by omega)]
            by_cases c : tkE tp n p - p ≤ 4
            · rw [if_pos c] at kE
              rw [if_neg (by rw [li, le_n (by omega) (by omega)]; omega), b_185_252]
              refine fin _ _ ⟨by rw [up_pt _ _ (by omega), k17, ← hj], by rw [up_pt _ _ (by omega), k16, eS], ⟨fun z => by rw [kE] at z; omega, fun _ z => by rw [kE] at z; omega, fun _ => ⟨by rw [up_same, upd_same], by rw [up_pt _ _ (by omega), k19, hv c, eV]; rfl⟩, fun z => by rw [kE] at z; omega, fun z => by rw [kE] at z; omega⟩⟩ (Fr_up kf _ (by omega))
            · rw [if_neg c] at kE
              rw [if_pos (by rw [li, le_n (by omega) (by omega)]; omega)]
              refine fin _ _ ⟨by rw [k17, ← hj], by rw [k16, eS], ⟨fun z => by rw [kE] at z; omega, fun _ z => by rw [kE] at z; omega, fun z => by rw [kE] at z; omega, fun z => by rw [kE] at z; omega, fun _ => k18⟩⟩ kf
          have lp : ∀ m s N v, n - s = m → p < s → s ≤ n → rE isD tp n s = tkE tp n p → (s - p ≤ 4 → v = nI (vlN tp p (s - p))) → N 205 16 = nI s → N 205 17 = nI p → N 205 18 = 1 → N 205 19 = v → Fr M N → am_Wp (d + 3) 185 171 [.ref 205, .int (rwB tp n p)] [] (hp nS N) Q := by
            intro m
            induction m with
            | zero =>
              intro s N v hm hs1 hs2 hE3 hv k16 k17 k18 k19 kf
              rw [rE_f (by omega)] at hE3
              rw [b_185_171, k16, m_raw (TM_f hT kf) (by omega), am_ans_some, b_185_180, m_isD hT.b, am_ans_some, b_185_183, decide_eq_false (show ¬ s < n by omega), Bool.false_and, if_pos (show bI false = 0 from rfl)]
              exact dend N v (by rw [← hE3]; exact hv) (by rw [k16, hE3]) k17 k18 k19 kf
            | succ m ih2 =>
              intro s N v hm hs1 hs2 hE3 hv k16 k17 k18 k19 kf
              rw [b_185_171, k16, m_raw (TM_f hT kf) (by omega), am_ans_some, b_185_180, m_isD hT.b, am_ans_some, b_185_183, decide_eq_true (show s < n by omega), Bool.true_and]
              cases hds : isD (tp s) with
              | true =>
                have hge := rE_ge isD tp n (s + 1)
                rw [rE_t (by omega) hds] at hE3
                have h5 := hdig s (by omega) (by omega)
                have go : ∀ v', (s + 1 - p ≤ 4 → v' = nI (vlN tp p (s + 1 - p))) → am_Wp (d + 3) 185 223 [.ref 205, .int (rwB tp n p)] [.int v', .ref 205] (hp nS N) Q := by
                  intro v' hv'
                  have w16 : am_up N 205 19 v' 205 16 = nI s := by rw [up_pt _ _ (by omega)]; exact k16
                  rw [b_185_223, w16, nI_1]
                  exact ih2 (s + 1) _ v' (by omega) (by omega) (by omega) hE3 hv' (by rw [up_same, upd_same]) (by rw [up_pt _ _ (by omega), up_pt _ _ (by omega)]; exact k17) (by rw [up_pt _ _ (by omega), up_pt _ _ (by omega)]; exact k18) (by rw [up_pt _ _ (by omega), up_same, upd_same]) (Fr_up (Fr_up kf _ (by omega)) _ (by omega))
                rw [if_neg (show ¬ bI true = 0 by decide), b_185_186, k19]
                by_cases cv : (10000 : Int32) ≤ v
                · rw [if_pos cv, b_185_219, k19]
                  refine go v (fun h4 => ?_)
                  have e := hv (by omega)
                  have hb := vlN_le tp p (s - p) (by omega) (fun k hk => (hdig (p + k) (by omega) (by omega)).2)
                  have hp4 : 10 ^ (s - p) ≤ 10 ^ 3 := Nat.pow_le_pow_right (by omega) (by omega)
                  rw [e, li, le_n (by omega) (by omega)] at cv
                  omega
                · have hrs : rwB tp n s = nI (tp s) := by unfold rwB; rw [if_pos (by omega)]
                  rw [if_neg cv, b_185_197, k16, k19, m_raw (TM_f hT kf) (by omega), am_ans_some, hrs, b_185_212]
                  refine go _ (fun h4 => ?_)
                  rw [hv (by omega), show (10 : Int32) * nI (vlN tp p (s - p)) = nI (10 * vlN tp p (s - p)) from pk_mul 10 _, nI_add, show nI (10 * vlN tp p (s - p) + tp s) - 48 = nI (10 * vlN tp p (s - p) + tp s - 48) from pk_sub (b := 48) (by omega), show s + 1 - p = s - p + 1 by omega, vlN, show p + (s - p) = s by omega, show 10 * vlN tp p (s - p) + tp s - 48 = vlN tp p (s - p) * 10 + (tp s - 48) by omega]
              | false =>
                rw [rE_f (fun z => by rw [hds] at z; cases z.2)] at hE3
                rw [if_pos (show bI false = 0 from rfl)]
                exact dend N v (by rw [← hE3]; exact hv) (by rw [k16, hE3]) k17 k18 k19 kf
          have h5 := hdig p (Nat.le_refl _) hE
          rw [if_neg (show ¬ bI true = 0 by decide), b_185_163]
          refine lp (n - (p + 1)) (p + 1) _ (nI (tp p - 48)) rfl (by omega) (by omega) eE.symm (fun _ => ?_) (by rw [up_pt _ _ (by omega)]; exact g16) (by rw [up_pt _ _ (by omega)]; exact g17) (by rw [up_pt _ _ (by omega)]; exact g18) ?_ (Fr_up gf _ (by omega))
          · rw [show p + 1 - p = 0 + 1 by omega, vlN, vlN, Nat.zero_mul, Nat.zero_add]; rfl
          · rw [up_same, upd_same, hr]; exact pk_sub (b := 48) (by omega)
        | false =>
          rw [hd, if_neg (by decide), ha, if_neg (by decide)] at kE
          have eE : tkE tp n p = p + 1 := by unfold tkE; rw [hd, ha, if_neg (by decide), if_neg (by decide)]
          rw [if_pos (show bI false = 0 from rfl), b_185_260, hr, m_mark tb, am_ans_some, b_185_265]
          by_cases c : sgI (tp p) < 10
          · rw [if_pos c] at kE
            rw [decide_eq_true c, if_neg (show ¬ bI true = 0 by decide), b_185_268]
            refine fin _ _ ⟨by rw [up_pt _ _ (by omega), g17, ← hj], by rw [up_pt _ _ (by omega), g16, eS, eE], ⟨fun z => by rw [kE] at z; omega, fun _ _ => ⟨by rw [up_same, upd_same], by rw [up_pt _ _ (by omega), g19, kE, show 26 + sgI (tp p) - 26 = sgI (tp p) by omega, sg_B c]⟩, fun z => by rw [kE] at z; omega, fun z => by rw [kE] at z; omega, fun z => by rw [kE] at z; omega⟩⟩ (Fr_up gf _ (by omega))
          · rw [if_neg c] at kE
            rw [decide_eq_false c, if_pos (show bI false = 0 from rfl)]
            refine fin _ _ ⟨by rw [g17, ← hj], by rw [g16, eS, eE], ⟨fun z => by rw [kE] at z; omega, fun _ z => by rw [kE] at z; omega, fun z => by rw [kE] at z; omega, fun z => by rw [kE] at z; omega, fun _ => g18⟩⟩ gf
  rw [b_185_0, h16, m_raw hT (by omega), am_ans_some]
  exact key (n - p) p M rfl hpn h16 hj (fun _ _ _ => rfl)
/-! the same, shut: a test of numbers need not look into it -/
def MTk (M : am_M) (k v : Nat) : Prop := MTa M k v
theorem MTk.w {M : am_M} {k v : Nat} (zz : MTk M k v) : k < 26 → M 205 18 = 2 ∧ M 205 19 = nI k := MTa.w zz
theorem MTk.s {M : am_M} {k v : Nat} (zz : MTk M k v) : 26 ≤ k → k < 36 → M 205 18 = 4 ∧ M 205 19 = nI (sgB (k - 26)) := MTa.s zz
theorem MTk.n {M : am_M} {k v : Nat} (zz : MTk M k v) : k = 36 → M 205 18 = 3 ∧ M 205 19 = nI v := MTa.n zz
theorem MTk.e {M : am_M} {k v : Nat} (zz : MTk M k v) : k = 37 → M 205 18 = 0 := MTa.e zz
theorem MTk.o {M : am_M} {k v : Nat} (zz : MTk M k v) : k = 38 → M 205 18 = 1 := MTa.o zz
def AT (tp : Nat → Nat) (n j : Nat) (M : am_M) : Prop := ATa tp n j M
theorem AT.f {tp : Nat → Nat} {n j : Nat} {M : am_M} (zz : AT tp n j M) : M 205 17 = nI (ps tp n j) := ATa.f zz
theorem AT.s {tp : Nat → Nat} {n j : Nat} {M : am_M} (zz : AT tp n j M) : M 205 16 = nI (mS tp n j) := ATa.s zz
theorem AT.k {tp : Nat → Nat} {n j : Nat} {M : am_M} (zz : AT tp n j M) : MTk M (kK tp n j) (kV tp n j) := ATa.k zz
theorem AT_f {tp : Nat → Nat} {n j : Nat} {M M' : am_M} (h : AT tp n j M) (e : ∀ k, k = 16 ∨ k = 17 ∨ k = 18 ∨ k = 19 → M' 205 k = M 205 k) : AT tp n j M' := by
  have e18 := e 18 (by omega)
  have e19 := e 19 (by omega)
  have r : ATa tp n j M' := ⟨by rw [e 17 (by omega)]; exact h.f, by rw [e 16 (by omega)]; exact h.s, ⟨fun z => by rw [e18, e19]; exact h.k.w z, fun z1 z2 => by rw [e18, e19]; exact h.k.s z1 z2, fun z => by rw [e18, e19]; exact h.k.n z, fun z => by rw [e18]; exact h.k.e z, fun z => by rw [e18]; exact h.k.o z⟩⟩
  exact r
theorem m_reads {d nS n p j : Nat} {tp : Nat → Nat} {M : am_M} {Q : Option Value → am_H → Prop} (hT : TM M n tp) (h16 : M 205 16 = nI p) (hpn : p ≤ n) (hj : rE isB tp n p = ps tp n j) (hQ : ∀ M', AT tp n j M' → Fr M M' → Q none (hp nS M')) : am_Wp (d + 3) 185 0 [.ref 205, .retAddr 0] [] (hp nS M) Q := m_readsA hT h16 hpn hj hQ
end
