section
/-! chalking -/
def oU (x : Cx) (g : Nat) : Option Nat := if x.up g = 0 then none else some (x.up g - 1)
def chS (l : Lw) (x : Cx) (g : Nat) (W : Rw) : Rw := if x.up g = 0 ∨ ¬ W (16 + (x.up g - 1)) = 1 then upd W (28 + g) (tel l x W 2 (oU x g) (some g) 0) else W
theorem hv_1 {v : Int32} : ∃ n, hvV 1 999 v = nI n ∧ 1 ≤ n ∧ n ≤ 999 := by
  unfold hvV
  by_cases h1 : (1 : Int32) ≤ v
  · rw [if_pos h1]
    by_cases h2 : v ≤ 999
    · rw [if_pos h2]
      exact in_ex (x := v) (lo := 1) (hi := 999) (not_lt' h1) (not_lt' h2) (by omega) (by omega)
    · rw [if_neg h2]; exact ⟨999, rfl, by omega, by omega⟩
  · rw [if_neg h1]; exact ⟨1, rfl, by omega, by omega⟩
theorem tel_2 (l : Lw) (x : Cx) (W : Rw) (o g : Option Nat) (mi : Int32) : ∃ n, tel l x W 2 o g mi = nI n ∧ 1 ≤ n ∧ n ≤ 999 := by
  unfold tel telV
  cases lnO l (akF W x o g mi) 2 l.n with
  | none => exact hv_1
  | some k => exact hv_1
theorem chS_ok {l : Lw} {x : Cx} {P : Nat} {W : Rw} {g : Nat} (h : WOk x P W) (hg : g < x.G) (hG : x.G ≤ 8) : WOk x P (chS l x g W) := by
  unfold chS
  by_cases c : x.up g = 0 ∨ ¬ W (16 + (x.up g - 1)) = 1
  · rw [if_pos c]; exact WOk_pr h (by omega) (tel_2 _ _ _ _ _ _) hG
  · rw [if_neg c]; exact h
theorem oU_I (x : Cx) (g : Nat) : nI (x.up g) - 1 = oI (oU x g) := by
  unfold oU
  by_cases h : x.up g = 0
  · rw [if_pos h, h]; rfl
  · rw [if_neg h, sub1 (by omega)]; rfl
theorem oU_ok {x : Cx} {g : Nat} (hu : x.up g ≤ x.L) (hg : g < x.G) : okA 2 x (oU x g) (some g) := by
  refine ⟨fun l hl => ?_, fun k hk => (by cases hk; exact hg), fun _ => ⟨g, rfl⟩, fun h => absurd rfl h⟩
  unfold oU at hl
  by_cases h : x.up g = 0
  · rw [if_pos h] at hl; cases hl
  · rw [if_neg h] at hl; cases hl; omega
theorem x_chalks {d nS : Nat} {M0 : am_M} {x : Cx} {W B : Rw} {l : Lw} {P : Nat} {M : am_M} {Q : Option Value → am_H → Prop} (h : KC 18 M0 M x W B) (hs : Sts M0 l x) (hO : WOk x P W) (hQ : ∀ M', KC 18 M0 M' x (itr (chS l x) W x.G) B → WOk x P (itr (chS l x) W x.G) → Q none (hp nS M')) : am_Wp (d + 3) 98 0 [.ref 17, .ref 18, .retAddr 0, .retAddr 0] [] (hp nS M) Q := by
  have hw : okw 18 := by unfold okw; omega
  have hL := hs.L6
  have hG := hs.G8
  have key : ∀ m j M z3, j + m = x.G → KC 18 M0 M x (itr (chS l x) W j) B → WOk x P (itr (chS l x) W j) → am_Wp (d + 3) 98 2 [.ref 17, .ref 18, .int (nI j), z3] [] (hp nS M) Q := by
    intro m
    induction m with
    | zero =>
      intro j M z3 hj h hO
      have : j = x.G := by omega
      subst this
      rw [b_98_2, h.cw.fG, if_pos (Int32.le_refl _), b_98_58]
      exact hQ M h hO
    | succ m ih =>
      intro j M z3 hj h hO
      have hjn : j < x.G := by omega
      have hu := hs.up j (by omega)
      have g7 : M 25 j = oI (oU x j) := (h.cw.bb j hjn).trans (oU_I x j)
      have nx : ∀ M' x3, KC 18 M0 M' x (chS l x j (itr (chS l x) W j)) B → am_Wp (d + 3) 98 52 [.ref 17, .ref 18, .int (nI j), .int x3] [] (hp nS M') Q := by
        intro M' x3 h'
        rw [b_98_52, nI_1]
        exact ih (j + 1) M' _ (by omega) h' (chS_ok hO hjn hG)
      have put : (x.up j = 0 ∨ ¬ itr (chS l x) W j (16 + (x.up j - 1)) = 1) → am_Wp (d + 3) 98 34 [.ref 17, .ref 18, .int (nI j), .int (oI (oU x j))] [] (hp nS M) Q := by
        intro c
        have ec : chS l x j (itr (chS l x) W j) = upd (itr (chS l x) W j) (28 + j) (tel l x (itr (chS l x) W j) 2 (oU x j) (some j) 0) := if_pos c
        rw [ec] at nx
        rw [b_98_34]
        refine x_tel (w := 2) (mi := 0) h hs (oU x j) (some j) (by omega) (oU_ok hu hjn) (fun M1 h1 => ?_)
        rw [am_ans_some, b_98_51 (by first | exact in_n (by omega) (by omega) | (simp only [li, nI_add, pk_mul]; exact in_n (by omega) (by omega))), cl_n (by omega)]
        exact nx _ _ (KC_pr h1 hw (by omega) _)
      rw [b_98_2, h.cw.fG, if_neg (by rw [le_n (by omega) (by omega)]; omega), b_98_10 (by first | exact in_n (by omega) (by omega) | (simp only [li, nI_add, pk_mul]; exact in_n (by omega) (by omega))), cl_n (by omega), g7, c_104, am_ans_some, b_98_22]
      by_cases c0 : x.up j = 0
      · have e0 : oU x j = none := if_pos c0
        rw [ite0_f (by rw [e0]; exact hasN)]
        exact put (Or.inl c0)
      · have e0 : oU x j = some (x.up j - 1) := if_neg c0
        have g4 : M 22 (x.up j - 1) = itr (chS l x) W j (16 + (x.up j - 1)) := h.cw.lo _ (by omega)
        rw [ite0_t (by rw [e0]; exact hasI h.cw.fL (by omega) (by omega)), b_98_25 (by rw [e0]; exact in_n (by omega) (by omega))]
        have e1 : (oI (oU x j)).toNatClampNeg = x.up j - 1 := by rw [e0]; exact cl_n (by omega)
        rw [e1, g4]
        rcases hO.lo (x.up j - 1) (by omega) with c1 | c1
        · rw [if_neg (fun z => z c1)]
          exact put (Or.inr (by rw [c1]; decide))
        · have ec : chS l x j (itr (chS l x) W j) = itr (chS l x) W j := if_neg (fun z => z.elim c0 (fun z => z c1))
          rw [ec] at nx
          rw [if_pos (by rw [c1]; decide)]
          exact nx M _ h
  rw [b_98_0]
  exact key x.G 0 M _ (by omega) h hO
theorem x_chalksi1 {d nS : Nat} {M0 : am_M} {x : Cx} {W B : Rw} {l : Lw} {P : Nat} {M : am_M} {Q : Option Value → am_H → Prop} (h : KC 101 M0 M x W B) (hs : Sts M0 l x) (hO : WOk x P W) (hQ : ∀ M', KC 101 M0 M' x (itr (chS l x) W x.G) B → WOk x P (itr (chS l x) W x.G) → Q none (hp nS M')) : am_Wp (d + 3) 98 0 [.ref 17, .ref 101, .retAddr 0, .retAddr 0] [] (hp nS M) Q := by
  have hw : okw 101 := by unfold okw; omega
  have hL := hs.L6
  have hG := hs.G8
  have key : ∀ m j M z3, j + m = x.G → KC 101 M0 M x (itr (chS l x) W j) B → WOk x P (itr (chS l x) W j) → am_Wp (d + 3) 98 2 [.ref 17, .ref 101, .int (nI j), z3] [] (hp nS M) Q := by
    intro m
    induction m with
    | zero =>
      intro j M z3 hj h hO
      have : j = x.G := by omega
      subst this
      rw [b_98i1_2, h.cw.fG, if_pos (Int32.le_refl _), b_98i1_58]
      exact hQ M h hO
    | succ m ih =>
      intro j M z3 hj h hO
      have hjn : j < x.G := by omega
      have hu := hs.up j (by omega)
      have g7 : M 108 j = oI (oU x j) := (h.cw.bb j hjn).trans (oU_I x j)
      have nx : ∀ M' x3, KC 101 M0 M' x (chS l x j (itr (chS l x) W j)) B → am_Wp (d + 3) 98 52 [.ref 17, .ref 101, .int (nI j), .int x3] [] (hp nS M') Q := by
        intro M' x3 h'
        rw [b_98i1_52, nI_1]
        exact ih (j + 1) M' _ (by omega) h' (chS_ok hO hjn hG)
      have put : (x.up j = 0 ∨ ¬ itr (chS l x) W j (16 + (x.up j - 1)) = 1) → am_Wp (d + 3) 98 34 [.ref 17, .ref 101, .int (nI j), .int (oI (oU x j))] [] (hp nS M) Q := by
        intro c
        have ec : chS l x j (itr (chS l x) W j) = upd (itr (chS l x) W j) (28 + j) (tel l x (itr (chS l x) W j) 2 (oU x j) (some j) 0) := if_pos c
        rw [ec] at nx
        rw [b_98i1_34]
        refine x_teli1 (w := 2) (mi := 0) h hs (oU x j) (some j) (by omega) (oU_ok hu hjn) (fun M1 h1 => ?_)
        rw [am_ans_some, b_98i1_51 (by first | exact in_n (by omega) (by omega) | (simp only [li, nI_add, pk_mul]; exact in_n (by omega) (by omega))), cl_n (by omega)]
        exact nx _ _ (KC_pr h1 hw (by omega) _)
      rw [b_98i1_2, h.cw.fG, if_neg (by rw [le_n (by omega) (by omega)]; omega), b_98i1_10 (by first | exact in_n (by omega) (by omega) | (simp only [li, nI_add, pk_mul]; exact in_n (by omega) (by omega))), cl_n (by omega), g7, c_104i1, am_ans_some, b_98i1_22]
      by_cases c0 : x.up j = 0
      · have e0 : oU x j = none := if_pos c0
        rw [ite0_f (by rw [e0]; exact hasN)]
        exact put (Or.inl c0)
      · have e0 : oU x j = some (x.up j - 1) := if_neg c0
        have g4 : M 105 (x.up j - 1) = itr (chS l x) W j (16 + (x.up j - 1)) := h.cw.lo _ (by omega)
        rw [ite0_t (by rw [e0]; exact hasI h.cw.fL (by omega) (by omega)), b_98i1_25 (by rw [e0]; exact in_n (by omega) (by omega))]
        have e1 : (oI (oU x j)).toNatClampNeg = x.up j - 1 := by rw [e0]; exact cl_n (by omega)
        rw [e1, g4]
        rcases hO.lo (x.up j - 1) (by omega) with c1 | c1
        · rw [if_neg (fun z => z c1)]
          exact put (Or.inr (by rw [c1]; decide))
        · have ec : chS l x j (itr (chS l x) W j) = itr (chS l x) W j := if_neg (fun z => z.elim c0 (fun z => z c1))
          rw [ec] at nx
          rw [if_pos (by rw [c1]; decide)]
          exact nx M _ h
  rw [b_98i1_0]
  exact key x.G 0 M _ (by omega) h hO
/-! trading -/
def trN (W : Rw) (t g : Nat) (bu : Bool) (n : Nat) : Int32 := if bu = true then mnI (nI n) (mnI (W (36 + t) / W (28 + g)) (99 - W (56 + (8 * t + g)))) else mnI (nI n) (W (56 + (8 * t + g)))
def trW (W : Rw) (t g : Nat) (bu : Bool) (m : Int32) : Rw := upd (upd W (36 + t) (W (36 + t) + (if bu = true then -m else m) * W (28 + g))) (56 + (8 * t + g)) (W (56 + (8 * t + g)) + (if bu = true then m else -m))
def trP (th : Bool) (t g : Nat) (bu : Bool) (n : Nat) (p : Rw × Rw) : Rw × Rw := if trN p.1 t g bu n = 0 then p else nt th (if bu = true then 2 else 3) (nI t) (trN p.1 t g bu n) (trW p.1 t g bu (trN p.1 t g bu n), p.2)
theorem mn_n {a b : Nat} (ha : a < 2147483648) (hb : b < 2147483648) : mnI (nI a) (nI b) = nI (min a b) := by
  unfold mnI
  by_cases h : b ≤ a
  · rw [if_pos (by rw [le_n hb ha]; exact h), Nat.min_eq_right h]
  · rw [if_neg (by rw [le_n hb ha]; exact h), Nat.min_eq_left (by omega)]
theorem upd_cm (W : Rw) {a b : Nat} (u v : Int32) (h : a ≠ b) : upd (upd W a u) b v = upd (upd W b v) a u := by
  funext j
  rw [upd_at, upd_at, upd_at, upd_at]
  by_cases h1 : j = a
  · rw [if_neg (fun z => h (h1.symm.trans z)), if_pos h1, if_pos h1]
  · rw [if_neg h1, if_neg h1]
/-- how many, as a number -/
theorem trN_n {x : Cx} {P : Nat} {W : Rw} {t g n : Nat} (h : WOk x P W) (hP : P ≤ 2000000000) (ht : t < 10) (hg : g < x.G) (hG : x.G ≤ 8) (hn : n ≤ 99) (bu : Bool) : ∃ U p S k, W (36 + t) = nI U ∧ U ≤ P ∧ W (28 + g) = nI p ∧ 1 ≤ p ∧ p ≤ 999 ∧ W (56 + (8 * t + g)) = nI S ∧ S ≤ 99 ∧ trN W t g bu n = nI k ∧ k ≤ n ∧ (bu = true → k * p ≤ U ∧ S + k ≤ 99) ∧ (bu = false → k ≤ S) := by
  obtain ⟨U, hU, hU2⟩ := h.pu t ht
  obtain ⟨p, hp1, hp2, hp3⟩ := h.pr g hg
  obtain ⟨S, hS, hS2⟩ := h.st (8 * t + g) (by omega)
  unfold trN
  cases bu with
  | true =>
    have ed : nI U / nI p = nI (U / p) := pk_div (by omega) (by omega) (by omega)
    have es : (99 : Int32) - nI S = nI (99 - S) := sub_n (a := 99) hS2
    have hd : U / p ≤ U := Nat.div_le_self _ _
    refine ⟨U, p, S, min n (min (U / p) (99 - S)), hU, hU2, hp1, hp2, hp3, hS, hS2, ?_, Nat.min_le_left _ _, fun _ => ⟨?_, ?_⟩, fun h => by cases h⟩
    · rw [if_pos rfl, hU, hp1, hS, ed, es, mn_n (by omega) (by omega), mn_n (by omega) (by have := Nat.min_le_right (U / p) (99 - S); omega)]
    · have h1 : min n (min (U / p) (99 - S)) ≤ U / p := Nat.le_trans (Nat.min_le_right _ _) (Nat.min_le_left _ _)
      exact Nat.le_trans (Nat.mul_le_mul_right p h1) (Nat.div_mul_le_self U p)
    · have h1 : min n (min (U / p) (99 - S)) ≤ 99 - S := Nat.le_trans (Nat.min_le_right _ _) (Nat.min_le_right _ _)
      omega
  | false =>
    refine ⟨U, p, S, min n S, hU, hU2, hp1, hp2, hp3, hS, hS2, ?_, Nat.min_le_left _ _, fun h => (by cases h), fun _ => Nat.min_le_right _ _⟩
    rw [if_neg (by decide), hS, mn_n (by omega) (by omega)]
theorem neg_add {a b : Nat} (h : b ≤ a) : nI a + -nI b = nI (a - b) := by rw [← Int32.sub_eq_add_neg]; exact sub_n h
theorem trP_ok {x : Cx} {P : Nat} {W B : Rw} {t g n : Nat} (h : WOk x P W) (hP : P + 98901 ≤ 2000000000) (ht : t < 10) (hg : g < x.G) (hG : x.G ≤ 8) (hn : n ≤ 99) (th bu : Bool) : WOk x (P + 98901) (trP th t g bu n (W, B)).1 := by
  obtain ⟨U, p, S, k, hU, hU2, hp1, hp2, hp3, hS, hS2, hk, hkn, hb, hs⟩ := trN_n h (by omega) ht hg hG hn bu
  unfold trP
  by_cases c : trN (W, B).1 t g bu n = 0
  · rw [if_pos c]; exact WOk_mono h (by omega)
  · rw [if_neg c]
    refine WOk_nt ?_ _ _ _ _ hG
    show WOk x (P + 98901) (trW W t g bu (trN W t g bu n))
    unfold trW
    rw [hk, hU, hp1, hS]
    have h9 : k * p ≤ 99 * 999 := Nat.mul_le_mul (by omega) hp3
    cases bu with
    | true =>
      obtain ⟨b1, b2⟩ := hb rfl
      have e1 : nI U + -nI k * nI p = nI (U - k * p) := by rw [Int32.neg_mul, pk_mul, neg_add b1]
      refine WOk_st (WOk_pu (WOk_mono h (by omega)) ht ⟨U - k * p, by rw [if_pos rfl]; exact e1, by omega⟩ hG) (by omega) ⟨S + k, by rw [if_pos rfl]; exact nI_add S k, by omega⟩ hG
    | false =>
      have b1 := hs rfl
      have e1 : nI U + nI k * nI p = nI (U + k * p) := by rw [pk_mul, nI_add]
      refine WOk_st (WOk_pu (WOk_mono h (by omega)) ht ⟨U + k * p, by rw [if_neg (by decide)]; exact e1, by omega⟩ hG) (by omega) ⟨S - k, by rw [if_neg (by decide)]; exact neg_add b1, by omega⟩ hG
theorem x_moves {d nS t g : Nat} {M0 : am_M} {x : Cx} {W B : Rw} {m : Int32} {M : am_M} {Q : Option Value → am_H → Prop} (h : KC 18 M0 M x W B) (ht : t < 10) (hg : g < 8) (hQ : ∀ M', KC 18 M0 M' x (upd (upd W (36 + t) (W (36 + t) - m * W (28 + g))) (56 + (8 * t + g)) (W (56 + (8 * t + g)) + m)) B → Q none (hp nS M')) : am_Wp d 112 0 [.ref 18, .int (nI t), .int (nI g), .int m] [] (hp nS M) Q := by
  have hw : okw 18 := by unfold okw; omega
  have g11 : M 29 (8 * t + g) = W (56 + (8 * t + g)) := h.cw.st _ (by omega)
  have h1 := KC_st h hw (show 8 * t + g < 80 by omega) (W (56 + (8 * t + g)) + m)
  have g9 : am_up M 29 (8 * t + g) (W (56 + (8 * t + g)) + m) 27 t = upd W (56 + (8 * t + g)) (W (56 + (8 * t + g)) + m) (36 + t) := h1.cw.pu t ht
  have g8 : am_up M 29 (8 * t + g) (W (56 + (8 * t + g)) + m) 26 g = upd W (56 + (8 * t + g)) (W (56 + (8 * t + g)) + m) (28 + g) := h1.cw.pr g hg
  rw [c_112 (by rw [mul8]; exact in_n (by omega) (by omega)) (by rw [mul8]; exact in_n (by omega) (by omega)) (by first | exact in_n (by omega) (by omega) | (simp only [li, nI_add, pk_mul]; exact in_n (by omega) (by omega))) (by first | exact in_n (by omega) (by omega) | (simp only [li, nI_add, pk_mul]; exact in_n (by omega) (by omega))) (by first | exact in_n (by omega) (by omega) | (simp only [li, nI_add, pk_mul]; exact in_n (by omega) (by omega))), mul8, cl_n (by omega), cl_n (by omega), cl_n (by omega), g11, g9, g8, upd_ne _ _ (by omega), upd_ne _ _ (by omega)]
  have h2 := KC_pu h1 hw ht (W (36 + t) - m * W (28 + g))
  rw [upd_cm _ _ _ (by omega)] at h2
  exact hQ _ h2
theorem x_buys {d nS t g n : Nat} {M0 : am_M} {x : Cx} {W B : Rw} {P : Nat} {M : am_M} {Q : Option Value → am_H → Prop} (h : KC 18 M0 M x W B) (hO : WOk x P W) (hP : P + 98901 ≤ 2000000000) (hG : x.G ≤ 8) (ht : t < 10) (hg : g < x.G) (hn : n ≤ 99) (hQ : ∀ M', KC 18 M0 M' x (trP false t g true n (W, B)).1 (trP false t g true n (W, B)).2 → Q none (hp nS M')) : am_Wp (d + 2) 92 0 [.ref 17, .ref 18, .int (nI t), .int (nI g), .int (nI n), .int 1, .retAddr 0] [] (hp nS M) Q := by
  obtain ⟨U, p, S, k, hU, hU2, hp1, hp2, hp3, hS, hS2, hk, hkn, hb, hs⟩ := trN_n hO (by omega) ht hg hG hn true
  have g8 : M 26 g = nI p := (h.cw.pr g (by omega)).trans hp1
  have g9 : M 27 t = nI U := (h.cw.pu t ht).trans hU
  have g11 : M 29 (8 * t + g) = nI S := (h.cw.st _ (by omega)).trans hS
  have i80 : vp_in (nI t * 8 + nI g) 80 := by rw [mul8]; exact in_n (by omega) (by omega)
  have np : ¬ nI p ≤ 0 := by rw [li, le_n (by omega) (by omega)]; omega
  have ek : mnI (nI n) (mnI (nI U / nI p) (99 - nI S)) = nI k := by
    have := hk
    unfold trN at this
    rw [if_pos rfl, hU, hp1, hS] at this
    exact this
  rw [b_92_0, c_109 (by first | exact in_n (by omega) (by omega) | (simp only [li, nI_add, pk_mul]; exact in_n (by omega) (by omega))) (fun _ => i80) (fun _ => (by first | exact in_n (by omega) (by omega) | (simp only [li, nI_add, pk_mul]; exact in_n (by omega) (by omega)))) (fun _ => (by first | exact in_n (by omega) (by omega) | (simp only [li, nI_add, pk_mul]; exact in_n (by omega) (by omega)))) (fun _ => by rw [cl_n (by omega), g8]; exact nI_ne0 (by omega) (by omega)) (fun _ => i80), am_ans_some, cl_n (by omega), if_neg (by rw [g8]; exact np), mul8, cl_n (by omega), cl_n (by omega), g8, g9, g11, mn_lt, b_92_8, c_296, mn_lt, ek, am_ans_some, b_92_11]
  by_cases c : k = 0
  · have e : trP false t g true n (W, B) = (W, B) := if_pos (by show trN W t g true n = 0; rw [hk, c]; rfl)
    rw [e] at hQ
    rw [if_pos (by rw [c]; decide), b_92_37]
    exact hQ M h
  · have e : trP false t g true n (W, B) = nt false 2 (nI t) (nI k) (trW W t g true (nI k), B) := by
      unfold trP
      rw [if_neg (show ¬ trN (W, B).1 t g true n = 0 by show ¬ trN W t g true n = 0; rw [hk]; exact nI_ne0 (by omega) (by omega))]
      show nt false (if true = true then 2 else 3) (nI t) (trN W t g true n) (trW W t g true (trN W t g true n), B) = _
      rw [hk, if_pos rfl]
    rw [e] at hQ
    rw [if_neg (by rw [li, le_n (by omega) (by omega)]; omega), b_92_18]
    refine x_moves h ht (by omega) (fun M1 h1 => ?_)
    rw [am_ans_none, b_92_26]
    have ew : upd (upd W (36 + t) (W (36 + t) - nI k * W (28 + g))) (56 + (8 * t + g)) (W (56 + (8 * t + g)) + nI k) = trW W t g true (nI k) := by
      unfold trW
      rw [if_pos rfl, if_pos rfl, Int32.neg_mul, ← Int32.sub_eq_add_neg]
    rw [ew] at h1
    refine x_nt h1 ?_ (fun M2 h2 => ?_)
    · obtain ⟨q, q1, q2⟩ := hO.wr
      exact ⟨q, by unfold trW; rw [upd_ne _ _ (by omega), upd_ne _ _ (by omega)]; exact q1, q2⟩
    · rw [am_ans_none, b_92_37]
      exact hQ M2 h2
theorem x_sells {d nS t g n : Nat} {M0 : am_M} {x : Cx} {W B : Rw} {P : Nat} {M : am_M} {Q : Option Value → am_H → Prop} (h : KC 18 M0 M x W B) (hO : WOk x P W) (hP : P + 98901 ≤ 2000000000) (hG : x.G ≤ 8) (ht : t < 10) (hg : g < x.G) (hn : n ≤ 99) (hQ : ∀ M', KC 18 M0 M' x (trP false t g false n (W, B)).1 (trP false t g false n (W, B)).2 → Q none (hp nS M')) : am_Wp (d + 2) 94 0 [.ref 17, .ref 18, .int (nI t), .int (nI g), .int (nI n), .int 1, .retAddr 0] [] (hp nS M) Q := by
  obtain ⟨U, p, S, k, hU, hU2, hp1, hp2, hp3, hS, hS2, hk, hkn, hb, hs⟩ := trN_n hO (by omega) ht hg hG hn false
  have g11 : M 29 (8 * t + g) = nI S := (h.cw.st _ (by omega)).trans hS
  have ek : mnI (nI n) (nI S) = nI k := by
    have := hk
    unfold trN at this
    rw [if_neg (by decide), hS] at this
    exact this
  rw [b_94_0, c_110 (by rw [mul8]; exact in_n (by omega) (by omega)), mul8, cl_n (by omega), g11, am_ans_some, b_94_8, c_296, mn_lt, ek, am_ans_some, b_94_11]
  by_cases c : k = 0
  · have e : trP false t g false n (W, B) = (W, B) := if_pos (by show trN W t g false n = 0; rw [hk, c]; rfl)
    rw [e] at hQ
    rw [if_pos (by rw [c]; decide), b_94_38]
    exact hQ M h
  · have e : trP false t g false n (W, B) = nt false 3 (nI t) (nI k) (trW W t g false (nI k), B) := by
      unfold trP
      rw [if_neg (show ¬ trN (W, B).1 t g false n = 0 by show ¬ trN W t g false n = 0; rw [hk]; exact nI_ne0 (by omega) (by omega))]
      show nt false (if false = true then 2 else 3) (nI t) (trN W t g false n) (trW W t g false (trN W t g false n), B) = _
      rw [hk, if_neg (by decide)]
    rw [e] at hQ
    rw [if_neg (by rw [li, le_n (by omega) (by omega)]; omega), b_94_18]
    refine x_moves h ht (by omega) (fun M1 h1 => ?_)
    rw [am_ans_none, b_94_27]
    have ew : upd (upd W (36 + t) (W (36 + t) - -nI k * W (28 + g))) (56 + (8 * t + g)) (W (56 + (8 * t + g)) + -nI k) = trW W t g false (nI k) := by
      unfold trW
      rw [if_neg (by decide), if_neg (by decide), Int32.neg_mul, Int32.sub_neg]
    rw [ew] at h1
    refine x_nt h1 ?_ (fun M2 h2 => ?_)
    · obtain ⟨q, q1, q2⟩ := hO.wr
      exact ⟨q, by unfold trW; rw [upd_ne _ _ (by omega), upd_ne _ _ (by omega)]; exact q1, q2⟩
    · rw [am_ans_none, b_94_38]
      exact hQ M2 h2
theorem x_movesi1 {d nS t g : Nat} {M0 : am_M} {x : Cx} {W B : Rw} {m : Int32} {M : am_M} {Q : Option Value → am_H → Prop} (h : KC 101 M0 M x W B) (ht : t < 10) (hg : g < 8) (hQ : ∀ M', KC 101 M0 M' x (upd (upd W (36 + t) (W (36 + t) - m * W (28 + g))) (56 + (8 * t + g)) (W (56 + (8 * t + g)) + m)) B → Q none (hp nS M')) : am_Wp d 112 0 [.ref 101, .int (nI t), .int (nI g), .int m] [] (hp nS M) Q := by
  have hw : okw 101 := by unfold okw; omega
  have g11 : M 112 (8 * t + g) = W (56 + (8 * t + g)) := h.cw.st _ (by omega)
  have h1 := KC_st h hw (show 8 * t + g < 80 by omega) (W (56 + (8 * t + g)) + m)
  have g9 : am_up M 112 (8 * t + g) (W (56 + (8 * t + g)) + m) 110 t = upd W (56 + (8 * t + g)) (W (56 + (8 * t + g)) + m) (36 + t) := h1.cw.pu t ht
  have g8 : am_up M 112 (8 * t + g) (W (56 + (8 * t + g)) + m) 109 g = upd W (56 + (8 * t + g)) (W (56 + (8 * t + g)) + m) (28 + g) := h1.cw.pr g hg
  rw [c_112i1 (by rw [mul8]; exact in_n (by omega) (by omega)) (by rw [mul8]; exact in_n (by omega) (by omega)) (by first | exact in_n (by omega) (by omega) | (simp only [li, nI_add, pk_mul]; exact in_n (by omega) (by omega))) (by first | exact in_n (by omega) (by omega) | (simp only [li, nI_add, pk_mul]; exact in_n (by omega) (by omega))) (by first | exact in_n (by omega) (by omega) | (simp only [li, nI_add, pk_mul]; exact in_n (by omega) (by omega))), mul8, cl_n (by omega), cl_n (by omega), cl_n (by omega), g11, g9, g8, upd_ne _ _ (by omega), upd_ne _ _ (by omega)]
  have h2 := KC_pu h1 hw ht (W (36 + t) - m * W (28 + g))
  rw [upd_cm _ _ _ (by omega)] at h2
  exact hQ _ h2
theorem x_buysi1 {d nS t g n : Nat} {M0 : am_M} {x : Cx} {W B : Rw} {P : Nat} {M : am_M} {Q : Option Value → am_H → Prop} (h : KC 101 M0 M x W B) (hO : WOk x P W) (hP : P + 98901 ≤ 2000000000) (hG : x.G ≤ 8) (ht : t < 10) (hg : g < x.G) (hn : n ≤ 99) (hQ : ∀ M', KC 101 M0 M' x (trP true t g true n (W, B)).1 (trP true t g true n (W, B)).2 → Q none (hp nS M')) : am_Wp (d + 2) 92 0 [.ref 17, .ref 101, .int (nI t), .int (nI g), .int (nI n), .int 0, .retAddr 0] [] (hp nS M) Q := by
  obtain ⟨U, p, S, k, hU, hU2, hp1, hp2, hp3, hS, hS2, hk, hkn, hb, hs⟩ := trN_n hO (by omega) ht hg hG hn true
  have g8 : M 109 g = nI p := (h.cw.pr g (by omega)).trans hp1
  have g9 : M 110 t = nI U := (h.cw.pu t ht).trans hU
  have g11 : M 112 (8 * t + g) = nI S := (h.cw.st _ (by omega)).trans hS
  have i80 : vp_in (nI t * 8 + nI g) 80 := by rw [mul8]; exact in_n (by omega) (by omega)
  have np : ¬ nI p ≤ 0 := by rw [li, le_n (by omega) (by omega)]; omega
  have ek : mnI (nI n) (mnI (nI U / nI p) (99 - nI S)) = nI k := by
    have := hk
    unfold trN at this
    rw [if_pos rfl, hU, hp1, hS] at this
    exact this
  rw [b_92i1_0, c_109i1 (by first | exact in_n (by omega) (by omega) | (simp only [li, nI_add, pk_mul]; exact in_n (by omega) (by omega))) (fun _ => i80) (fun _ => (by first | exact in_n (by omega) (by omega) | (simp only [li, nI_add, pk_mul]; exact in_n (by omega) (by omega)))) (fun _ => (by first | exact in_n (by omega) (by omega) | (simp only [li, nI_add, pk_mul]; exact in_n (by omega) (by omega)))) (fun _ => by rw [cl_n (by omega), g8]; exact nI_ne0 (by omega) (by omega)) (fun _ => i80), am_ans_some, cl_n (by omega), if_neg (by rw [g8]; exact np), mul8, cl_n (by omega), cl_n (by omega), g8, g9, g11, mn_lt, b_92i1_8, c_296, mn_lt, ek, am_ans_some, b_92i1_11]
  by_cases c : k = 0
  · have e : trP true t g true n (W, B) = (W, B) := if_pos (by show trN W t g true n = 0; rw [hk, c]; rfl)
    rw [e] at hQ
    rw [if_pos (by rw [c]; decide), b_92i1_37]
    exact hQ M h
  · have e : trP true t g true n (W, B) = nt true 2 (nI t) (nI k) (trW W t g true (nI k), B) := by
      unfold trP
      rw [if_neg (show ¬ trN (W, B).1 t g true n = 0 by show ¬ trN W t g true n = 0; rw [hk]; exact nI_ne0 (by omega) (by omega))]
      show nt true (if true = true then 2 else 3) (nI t) (trN W t g true n) (trW W t g true (trN W t g true n), B) = _
      rw [hk, if_pos rfl]
    rw [e] at hQ
    rw [if_neg (by rw [li, le_n (by omega) (by omega)]; omega), b_92i1_18]
    refine x_movesi1 h ht (by omega) (fun M1 h1 => ?_)
    rw [am_ans_none, b_92i1_26]
    have ew : upd (upd W (36 + t) (W (36 + t) - nI k * W (28 + g))) (56 + (8 * t + g)) (W (56 + (8 * t + g)) + nI k) = trW W t g true (nI k) := by
      unfold trW
      rw [if_pos rfl, if_pos rfl, Int32.neg_mul, ← Int32.sub_eq_add_neg]
    rw [ew] at h1
    refine x_nti1 h1 ?_ (fun M2 h2 => ?_)
    · obtain ⟨q, q1, q2⟩ := hO.wr
      exact ⟨q, by unfold trW; rw [upd_ne _ _ (by omega), upd_ne _ _ (by omega)]; exact q1, q2⟩
    · rw [am_ans_none, b_92i1_37]
      exact hQ M2 h2
theorem x_sellsi1 {d nS t g n : Nat} {M0 : am_M} {x : Cx} {W B : Rw} {P : Nat} {M : am_M} {Q : Option Value → am_H → Prop} (h : KC 101 M0 M x W B) (hO : WOk x P W) (hP : P + 98901 ≤ 2000000000) (hG : x.G ≤ 8) (ht : t < 10) (hg : g < x.G) (hn : n ≤ 99) (hQ : ∀ M', KC 101 M0 M' x (trP true t g false n (W, B)).1 (trP true t g false n (W, B)).2 → Q none (hp nS M')) : am_Wp (d + 2) 94 0 [.ref 17, .ref 101, .int (nI t), .int (nI g), .int (nI n), .int 0, .retAddr 0] [] (hp nS M) Q := by
  obtain ⟨U, p, S, k, hU, hU2, hp1, hp2, hp3, hS, hS2, hk, hkn, hb, hs⟩ := trN_n hO (by omega) ht hg hG hn false
  have g11 : M 112 (8 * t + g) = nI S := (h.cw.st _ (by omega)).trans hS
  have ek : mnI (nI n) (nI S) = nI k := by
    have := hk
    unfold trN at this
    rw [if_neg (by decide), hS] at this
    exact this
  rw [b_94i1_0, c_110i1 (by rw [mul8]; exact in_n (by omega) (by omega)), mul8, cl_n (by omega), g11, am_ans_some, b_94i1_8, c_296, mn_lt, ek, am_ans_some, b_94i1_11]
  by_cases c : k = 0
  · have e : trP true t g false n (W, B) = (W, B) := if_pos (by show trN W t g false n = 0; rw [hk, c]; rfl)
    rw [e] at hQ
    rw [if_pos (by rw [c]; decide), b_94i1_38]
    exact hQ M h
  · have e : trP true t g false n (W, B) = nt true 3 (nI t) (nI k) (trW W t g false (nI k), B) := by
      unfold trP
      rw [if_neg (show ¬ trN (W, B).1 t g false n = 0 by show ¬ trN W t g false n = 0; rw [hk]; exact nI_ne0 (by omega) (by omega))]
      show nt true (if false = true then 2 else 3) (nI t) (trN W t g false n) (trW W t g false (trN W t g false n), B) = _
      rw [hk, if_neg (by decide)]
    rw [e] at hQ
    rw [if_neg (by rw [li, le_n (by omega) (by omega)]; omega), b_94i1_18]
    refine x_movesi1 h ht (by omega) (fun M1 h1 => ?_)
    rw [am_ans_none, b_94i1_27]
    have ew : upd (upd W (36 + t) (W (36 + t) - -nI k * W (28 + g))) (56 + (8 * t + g)) (W (56 + (8 * t + g)) + -nI k) = trW W t g false (nI k) := by
      unfold trW
      rw [if_neg (by decide), if_neg (by decide), Int32.neg_mul, Int32.sub_neg]
    rw [ew] at h1
    refine x_nti1 h1 ?_ (fun M2 h2 => ?_)
    · obtain ⟨q, q1, q2⟩ := hO.wr
      exact ⟨q, by unfold trW; rw [upd_ne _ _ (by omega), upd_ne _ _ (by omega)]; exact q1, q2⟩
    · rw [am_ans_none, b_94i1_38]
      exact hQ M2 h2
end
