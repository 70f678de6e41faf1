section
abbrev Tr := (Nat) × (Nat → Nat) × (Nat → Nat) × (Nat → Bool) × (Nat → Nat) × (Nat → Nat)
def Tr.n (zz : Tr) : Nat := zz.1
def Tr.day (zz : Tr) : Nat → Nat := zz.2.1
def Tr.wo (zz : Tr) : Nat → Nat := zz.2.2.1
def Tr.bu (zz : Tr) : Nat → Bool := zz.2.2.2.1
def Tr.mn (zz : Tr) : Nat → Nat := zz.2.2.2.2.1
def Tr.gd (zz : Tr) : Nat → Nat := zz.2.2.2.2.2
abbrev TrOk (x : Cx) (t : Tr) : Prop := (t.n ≤ 16) ∧ (∀ j, j < t.n → t.wo j < x.T) ∧ (∀ j, j < t.n → t.gd j < x.G) ∧ (∀ j, j < t.n → 1 ≤ t.mn j ∧ t.mn j ≤ 99) ∧ (∀ j, j < t.n → t.day j ≤ 999)
theorem TrOk.n16 {x : Cx} {t : Tr} (zz : TrOk x t) : t.n ≤ 16 := zz.1
theorem TrOk.wo {x : Cx} {t : Tr} (zz : TrOk x t) : ∀ j, j < t.n → t.wo j < x.T := zz.2.1
theorem TrOk.gd {x : Cx} {t : Tr} (zz : TrOk x t) : ∀ j, j < t.n → t.gd j < x.G := zz.2.2.1
theorem TrOk.mn {x : Cx} {t : Tr} (zz : TrOk x t) : ∀ j, j < t.n → 1 ≤ t.mn j ∧ t.mn j ≤ 99 := zz.2.2.2.1
theorem TrOk.da {x : Cx} {t : Tr} (zz : TrOk x t) : ∀ j, j < t.n → t.day j ≤ 999 := zz.2.2.2.2
abbrev CTr (b : Nat) (M : am_M) (t : Tr) : Prop := (M b 1 = nI t.n) ∧ (∀ j, j < t.n → M (b + 1) (5 * j) = nI (t.day j)) ∧ (∀ j, j < t.n → M (b + 1) (5 * j + 1) = nI (t.wo j)) ∧ (∀ j, j < t.n → M (b + 1) (5 * j + 2) = nI (if t.bu j = true then 21 else 22)) ∧ (∀ j, j < t.n → M (b + 1) (5 * j + 3) = nI (t.mn j)) ∧ (∀ j, j < t.n → M (b + 1) (5 * j + 4) = nI (t.gd j))
theorem CTr.n {b : Nat} {M : am_M} {t : Tr} (zz : CTr b M t) : M b 1 = nI t.n := zz.1
theorem CTr.day {b : Nat} {M : am_M} {t : Tr} (zz : CTr b M t) : ∀ j, j < t.n → M (b + 1) (5 * j) = nI (t.day j) := zz.2.1
theorem CTr.wo {b : Nat} {M : am_M} {t : Tr} (zz : CTr b M t) : ∀ j, j < t.n → M (b + 1) (5 * j + 1) = nI (t.wo j) := zz.2.2.1
theorem CTr.bu {b : Nat} {M : am_M} {t : Tr} (zz : CTr b M t) : ∀ j, j < t.n → M (b + 1) (5 * j + 2) = nI (if t.bu j = true then 21 else 22) := zz.2.2.2.1
theorem CTr.mn {b : Nat} {M : am_M} {t : Tr} (zz : CTr b M t) : ∀ j, j < t.n → M (b + 1) (5 * j + 3) = nI (t.mn j) := zz.2.2.2.2.1
theorem CTr.gd {b : Nat} {M : am_M} {t : Tr} (zz : CTr b M t) : ∀ j, j < t.n → M (b + 1) (5 * j + 4) = nI (t.gd j) := zz.2.2.2.2.2
theorem CTr_of {b : Nat} {M M' : am_M} {t : Tr} (h : CTr b M t) (e1 : M' b = M b) (e2 : M' (b + 1) = M (b + 1)) : CTr b M' t := by
  refine ⟨?_, ?_, ?_, ?_, ?_, ?_⟩
  · rw [e1]; exact h.n
  · rw [e2]; exact h.day
  · rw [e2]; exact h.wo
  · rw [e2]; exact h.bu
  · rw [e2]; exact h.mn
  · rw [e2]; exact h.gd
def trS (th : Bool) (t : Tr) (j : Nat) (p : Rw × Rw) : Rw × Rw := if nI (t.day j) = p.1 0 ∧ ¬ p.1 (46 + t.wo j) = 1 then trP th (t.wo j) (t.gd j) (t.bu j) (t.mn j) p else p
/-- how many of the first lines stand at this day -/
def trE (t : Tr) (D : Int32) : Nat → Nat
  | 0 => 0
  | j + 1 => trE t D j + (if nI (t.day j) = D then 1 else 0)
theorem nt_0 (th : Bool) (wh wo mu : Int32) (p : Rw × Rw) : (nt th wh wo mu p).1 0 = p.1 0 := by
  unfold nt
  by_cases c : th = true ∨ p.1 2 = 150
  · rw [if_pos c]
  · rw [if_neg c]; exact upd_ne p.1 (p.1 2 + 1) (show (0 : Nat) ≠ 2 by omega)
theorem trP_0 (th : Bool) (t g : Nat) (bu : Bool) (n : Nat) (p : Rw × Rw) : (trP th t g bu n p).1 0 = p.1 0 := by
  unfold trP
  by_cases c : trN p.1 t g bu n = 0
  · rw [if_pos c]
  · rw [if_neg c, nt_0]
    show trW p.1 t g bu (trN p.1 t g bu n) 0 = _
    unfold trW
    rw [upd_ne _ _ (by omega), upd_ne _ _ (by omega)]
theorem trS_0 (th : Bool) (t : Tr) (j : Nat) (p : Rw × Rw) : (trS th t j p).1 0 = p.1 0 := by
  unfold trS
  by_cases c : nI (t.day j) = p.1 0 ∧ ¬ p.1 (46 + t.wo j) = 1
  · rw [if_pos c, trP_0]
  · rw [if_neg c]
theorem trI_0 (th : Bool) (t : Tr) (p : Rw × Rw) : ∀ j, (itr (trS th t) p j).1 0 = p.1 0
  | 0 => rfl
  | j + 1 => by rw [itr_s, trS_0]; exact trI_0 th t p j
theorem trS_ok {x : Cx} {P : Nat} {p : Rw × Rw} {t : Tr} (h : WOk x P p.1) (hk : TrOk x t) (hT : x.T ≤ 10) (hG : x.G ≤ 8) {j : Nat} (hj : j < t.n) (hP : P + 98901 ≤ 2000000000) (th : Bool) : WOk x (P + 98901 * (if nI (t.day j) = p.1 0 then 1 else 0)) (trS th t j p).1 := by
  have h1 := hk.wo j hj
  have h2 := hk.gd j hj
  have h3 := hk.mn j hj
  unfold trS
  by_cases c : nI (t.day j) = p.1 0
  · rw [if_pos c]
    by_cases c2 : ¬ p.1 (46 + t.wo j) = 1
    · rw [if_pos ⟨c, c2⟩]
      exact trP_ok (W := p.1) (B := p.2) h hP (by omega) h2 hG h3.2 th _
    · rw [if_neg (fun z => c2 z.2)]
      exact WOk_mono h (by omega)
  · rw [if_neg c, if_neg (fun z => c z.1)]
    exact h
theorem trE_le (t : Tr) (D : Int32) : ∀ j, trE t D j ≤ j
  | 0 => Nat.le_refl _
  | j + 1 => by
    have := trE_le t D j
    rw [trE]
    by_cases c : nI (t.day j) = D
    · rw [if_pos c]; omega
    · rw [if_neg c]; omega
theorem x_deals {d nS j : Nat} {M0 : am_M} {x : Cx} {p : Rw × Rw} {t : Tr} {P : Nat} {M : am_M} {Q : Option Value → am_H → Prop} (h : KC 18 M0 M x p.1 p.2) (hD : CTr 41 M0 t) (hk : TrOk x t) (hT : x.T ≤ 10) (hG : x.G ≤ 8) (hj : j < t.n) (hO : WOk x P p.1) (hP : P + 98901 ≤ 2000000000) (hd : nI (t.day j) = p.1 0) (hQ : ∀ M', KC 18 M0 M' x (trS false t j p).1 (trS false t j p).2 → Q none (hp nS M')) : am_Wp (d + 3) 99 0 [.ref 17, .ref 18, .int (nI j), .int 1, .retAddr 0, .retAddr 0, .retAddr 0] [] (hp nS M) Q := by
  have hw : okw 18 := by unfold okw; omega
  have h16 := hk.n16
  have h1 := hk.wo j hj
  have h2 := hk.gd j hj
  have h3 := hk.mn j hj
  have e42 : M 42 = M0 42 := h.fr 42 (by unfold chg; omega)
  have c1 : M 42 (5 * j + 1) = nI (t.wo j) := by rw [e42]; exact hD.wo j hj
  have c2 : M 42 (5 * j + 2) = nI (if t.bu j = true then 21 else 22) := by rw [e42]; exact hD.bu j hj
  have c3 : M 42 (5 * j + 3) = nI (t.mn j) := by rw [e42]; exact hD.mn j hj
  have c4 : M 42 (5 * j + 4) = nI (t.gd j) := by rw [e42]; exact hD.gd j hj
  have m1 : nI j * 5 + 1 = nI (5 * j + 1) := mul5 j 1
  have m2 : nI j * 5 + 2 = nI (5 * j + 2) := mul5 j 2
  have m3 : nI j * 5 + 3 = nI (5 * j + 3) := mul5 j 3
  have m4 : nI j * 5 + 4 = nI (5 * j + 4) := mul5 j 4
  have g10 : M 28 (t.wo j) = p.1 (46 + t.wo j) := h.cw.ru _ (by omega)
  rw [b_99_0, c_33 (by rw [m1]; exact in_n (by omega) (by omega)), m1, cl_n (by omega), c1, am_ans_some, b_99_9, c_33 (by rw [m3]; exact in_n (by omega) (by omega)), m3, cl_n (by omega), c3, am_ans_some, b_99_20, c_33 (by rw [m4]; exact in_n (by omega) (by omega)), m4, cl_n (by omega), c4, am_ans_some, b_99_31, c_108 (fun _ _ => in_n (by omega) (by omega)), am_ans_some, b_99_41]
  rcases hO.ru (t.wo j) (by omega) with c | c
  · have e : trS false t j p = trP false (t.wo j) (t.gd j) (t.bu j) (t.mn j) p := if_pos ⟨hd, by rw [c]; decide⟩
    rw [e] at hQ
    rw [ite1_t ⟨hasI h.cw.fT h1 (by omega), hasI h.cw.fG h2 (by omega), fun z => z (by rw [cl_n (by omega), g10]; exact c)⟩, b_99_45, c_33 (by rw [m2]; exact in_n (by omega) (by omega)), m2, cl_n (by omega), c2, am_ans_some, b_99_54]
    cases hb : t.bu j with
    | true =>
      rw [hb] at hQ
      rw [if_neg (show ¬ ¬ nI (if true = true then 21 else 22) = 21 by decide), b_99_59]
      refine x_buys (W := p.1) (B := p.2) h hO hP hG (by omega) h2 h3.2 (fun M' h' => ?_)
      rw [am_ans_none, b_99_71, b_99_86]
      exact hQ M' h'
    | false =>
      rw [hb] at hQ
      rw [if_pos (show ¬ nI (if false = true then 21 else 22) = 21 by decide), b_99_74]
      refine x_sells (W := p.1) (B := p.2) h hO hP hG (by omega) h2 h3.2 (fun M' h' => ?_)
      rw [am_ans_none, b_99_86]
      exact hQ M' h'
  · have e : trS false t j p = p := if_neg (fun z => z.2 c)
    rw [e] at hQ
    rw [ite1_f (fun z => z.2.2 (by rw [cl_n (by omega), g10, c]; decide)), b_99_44]
    exact hQ M h
theorem x_dealsi1 {d nS j : Nat} {M0 : am_M} {x : Cx} {p : Rw × Rw} {t : Tr} {P : Nat} {M : am_M} {Q : Option Value → am_H → Prop} (h : KC 101 M0 M x p.1 p.2) (hD : CTr 41 M0 t) (hk : TrOk x t) (hT : x.T ≤ 10) (hG : x.G ≤ 8) (hj : j < t.n) (hO : WOk x P p.1) (hP : P + 98901 ≤ 2000000000) (hd : nI (t.day j) = p.1 0) (hQ : ∀ M', KC 101 M0 M' x (trS true t j p).1 (trS true t j p).2 → Q none (hp nS M')) : am_Wp (d + 3) 99 0 [.ref 17, .ref 101, .int (nI j), .int 0, .retAddr 0, .retAddr 0, .retAddr 0] [] (hp nS M) Q := by
  have hw : okw 101 := by unfold okw; omega
  have h16 := hk.n16
  have h1 := hk.wo j hj
  have h2 := hk.gd j hj
  have h3 := hk.mn j hj
  have e42 : M 42 = M0 42 := h.fr 42 (by unfold chg; omega)
  have c1 : M 42 (5 * j + 1) = nI (t.wo j) := by rw [e42]; exact hD.wo j hj
  have c2 : M 42 (5 * j + 2) = nI (if t.bu j = true then 21 else 22) := by rw [e42]; exact hD.bu j hj
  have c3 : M 42 (5 * j + 3) = nI (t.mn j) := by rw [e42]; exact hD.mn j hj
  have c4 : M 42 (5 * j + 4) = nI (t.gd j) := by rw [e42]; exact hD.gd j hj
  have m1 : nI j * 5 + 1 = nI (5 * j + 1) := mul5 j 1
  have m2 : nI j * 5 + 2 = nI (5 * j + 2) := mul5 j 2
  have m3 : nI j * 5 + 3 = nI (5 * j + 3) := mul5 j 3
  have m4 : nI j * 5 + 4 = nI (5 * j + 4) := mul5 j 4
  have g10 : M 111 (t.wo j) = p.1 (46 + t.wo j) := h.cw.ru _ (by omega)
  rw [b_99i1_0, c_33 (by rw [m1]; exact in_n (by omega) (by omega)), m1, cl_n (by omega), c1, am_ans_some, b_99i1_9, c_33 (by rw [m3]; exact in_n (by omega) (by omega)), m3, cl_n (by omega), c3, am_ans_some, b_99i1_20, c_33 (by rw [m4]; exact in_n (by omega) (by omega)), m4, cl_n (by omega), c4, am_ans_some, b_99i1_31, c_108i1 (fun _ _ => in_n (by omega) (by omega)), am_ans_some, b_99i1_41]
  rcases hO.ru (t.wo j) (by omega) with c | c
  · have e : trS true t j p = trP true (t.wo j) (t.gd j) (t.bu j) (t.mn j) p := if_pos ⟨hd, by rw [c]; decide⟩
    rw [e] at hQ
    rw [ite1_t ⟨hasI h.cw.fT h1 (by omega), hasI h.cw.fG h2 (by omega), fun z => z (by rw [cl_n (by omega), g10]; exact c)⟩, b_99i1_45, c_33 (by rw [m2]; exact in_n (by omega) (by omega)), m2, cl_n (by omega), c2, am_ans_some, b_99i1_54]
    cases hb : t.bu j with
    | true =>
      rw [hb] at hQ
      rw [if_neg (show ¬ ¬ nI (if true = true then 21 else 22) = 21 by decide), b_99i1_59]
      refine x_buysi1 (W := p.1) (B := p.2) h hO hP hG (by omega) h2 h3.2 (fun M' h' => ?_)
      rw [am_ans_none, b_99i1_71, b_99i1_86]
      exact hQ M' h'
    | false =>
      rw [hb] at hQ
      rw [if_pos (show ¬ nI (if false = true then 21 else 22) = 21 by decide), b_99i1_74]
      refine x_sellsi1 (W := p.1) (B := p.2) h hO hP hG (by omega) h2 h3.2 (fun M' h' => ?_)
      rw [am_ans_none, b_99i1_86]
      exact hQ M' h'
  · have e : trS true t j p = p := if_neg (fun z => z.2 c)
    rw [e] at hQ
    rw [ite1_f (fun z => z.2.2 (by rw [cl_n (by omega), g10, c]; decide)), b_99i1_44]
    exact hQ M h
/-! ruin -/
def noS (W : Rw) (t : Nat) : Nat → Bool
  | 0 => true
  | g + 1 => noS W t g && decide (W (56 + (8 * t + g)) = 0)
def lsM (W : Rw) : Nat → Int32
  | 0 => 100000000
  | g + 1 => mnI (lsM W g) (W (28 + g))
def brkD (W : Rw) (x : Cx) (t : Nat) : Bool := noS W t x.G && decide (0 < x.G) && !decide (lsM W x.G ≤ W (36 + t))
theorem brk_i {W : Rw} {x : Cx} {t : Nat} : brkD W x t = true ↔ noS W t x.G = true ∧ 0 < x.G ∧ ¬ lsM W x.G ≤ W (36 + t) := by
  unfold brkD
  rw [Bool.and_eq_true, Bool.and_eq_true]
  constructor
  · rintro ⟨⟨h1, h2⟩, h3⟩
    exact ⟨h1, of_decide_eq_true h2, fun z => by rw [decide_eq_true z] at h3; cases h3⟩
  · rintro ⟨h1, h2, h3⟩
    exact ⟨⟨h1, decide_eq_true h2⟩, by rw [decide_eq_false h3]; rfl⟩
def ruS (th : Bool) (x : Cx) (t : Nat) (p : Rw × Rw) : Rw × Rw := if ¬ p.1 (46 + t) = 1 ∧ brkD p.1 x t = true then nt th 4 (nI t) (p.1 (36 + t)) (upd p.1 (46 + t) 1, p.2) else p
theorem lsM_c {W W' : Rw} : ∀ g, (∀ k, k < g → W (28 + k) = W' (28 + k)) → lsM W g = lsM W' g
  | 0, _ => rfl
  | g + 1, h => by rw [lsM, lsM, lsM_c g (fun k hk => h k (by omega)), h g (by omega)]
theorem nt_p (th : Bool) (wh wo mu : Int32) (p : Rw × Rw) {j : Nat} (hj : j ≠ 2) : (nt th wh wo mu p).1 j = p.1 j := by
  unfold nt
  by_cases c : th = true ∨ p.1 2 = 150
  · rw [if_pos c]
  · rw [if_neg c]; exact upd_ne _ _ hj
theorem ruS_p (th : Bool) (x : Cx) (t : Nat) (p : Rw × Rw) {j : Nat} (hj : j ≠ 2) (h2 : j ≠ 46 + t) : (ruS th x t p).1 j = p.1 j := by
  unfold ruS
  by_cases c : ¬ p.1 (46 + t) = 1 ∧ brkD p.1 x t = true
  · rw [if_pos c, nt_p _ _ _ _ _ hj]; exact upd_ne _ _ h2
  · rw [if_neg c]
theorem ruI_p (th : Bool) (x : Cx) (p : Rw × Rw) {j : Nat} (hj : j ≠ 2) : ∀ n, (∀ t, t < n → j ≠ 46 + t) → (itr (ruS th x) p n).1 j = p.1 j
  | 0, _ => rfl
  | n + 1, h => by rw [itr_s, ruS_p _ _ _ _ hj (h n (by omega))]; exact ruI_p th x p hj n (fun t ht => h t (by omega))
theorem ruS_ok {x : Cx} {P : Nat} {p : Rw × Rw} (h : WOk x P p.1) (hG : x.G ≤ 8) {t : Nat} (ht : t < 10) (th : Bool) : WOk x P (ruS th x t p).1 := by
  unfold ruS
  by_cases c : ¬ p.1 (46 + t) = 1 ∧ brkD p.1 x t = true
  · rw [if_pos c]; exact WOk_nt (WOk_ru h ht (Or.inr rfl) hG) _ _ _ _ hG
  · rw [if_neg c]; exact h
theorem noS_f {W : Rw} {t j : Nat} (h : ¬ W (56 + (8 * t + j)) = 0) : ∀ {n}, noS W t n = true → j < n → False
  | 0, _, h2 => by omega
  | n + 1, h1, h2 => by
    rw [noS, Bool.and_eq_true] at h1
    by_cases e : j = n
    · subst e; exact h (of_decide_eq_true h1.2)
    · exact noS_f h h1.1 (by omega)
/-- the class's least price -/
def lsC (W : Rw) (G : Nat) : Int32 := if G = 0 then 0 else lsM W G
theorem far_mn {v : Nat} (h : v ≤ 999) : mnI 100000000 (nI v) = nI v := by
  rw [show (100000000 : Int32) = nI 100000000 from rfl, mn_n (by omega) (by omega), Nat.min_eq_right (by omega)]
theorem x_least {d nS : Nat} {M0 : am_M} {x : Cx} {W B : Rw} {P : Nat} {M : am_M} {Q : Option Value → am_H → Prop} (h : KC 18 M0 M x W B) (hO : WOk x P W) (hG : x.G ≤ 8) : am_Wp d 116 0 [.ref 18, .retAddr 0, .retAddr 0] [] (hp nS M) Q = Q (some (.int (lsC W x.G))) (hp nS M) := by
  have key : ∀ m j, j + m = x.G → am_Wp d 116 4 [.ref 18, .int (lsC W j), .int (nI j)] [] (hp nS M) Q = Q (some (.int (lsC W x.G))) (hp nS M) := by
    intro m
    induction m with
    | zero =>
      intro j hj
      have : j = x.G := by omega
      subst this
      rw [b_116_4, h.cw.fG, if_pos (Int32.le_refl _), b_116_39]
    | succ m ih =>
      intro j hj
      obtain ⟨v, hv, h1, h999⟩ := hO.pr j (by omega)
      have g8 : M 26 j = W (28 + j) := h.cw.pr j (by omega)
      have e1 : lsC W (j + 1) = mnI (lsM W j) (W (28 + j)) := if_neg (by omega)
      have ij := ih (j + 1) (by omega)
      rw [e1] at ij
      rw [b_116_4, h.cw.fG, if_neg (by rw [le_n (by omega) (by omega)]; omega), b_116_12]
      by_cases c : j = 0
      · subst c
        rw [if_pos nI_0, b_116_26 (by first | exact in_n (by omega) (by omega) | (simp only [li, nI_add, pk_mul]; exact in_n (by omega) (by omega))), cl_n (by omega), g8, b_116_33, nI_1]
        have : mnI (lsM W 0) (W (28 + 0)) = W (28 + 0) := by
          rw [hv]; exact far_mn h999
        rw [this] at ij
        exact ij
      · have e0 : lsC W j = lsM W j := if_neg c
        rw [← mn_lt] at ij
        rw [if_neg (nI_ne0 (by omega) (by omega)), b_116_16 (by first | exact in_n (by omega) (by omega) | (simp only [li, nI_add, pk_mul]; exact in_n (by omega) (by omega))), cl_n (by omega), g8, e0]
        by_cases c2 : W (28 + j) < lsM W j
        · rw [if_pos c2] at ij
          rw [if_neg (not_le' c2), b_116_26 (by first | exact in_n (by omega) (by omega) | (simp only [li, nI_add, pk_mul]; exact in_n (by omega) (by omega))), cl_n (by omega), g8, b_116_33, nI_1]
          exact ij
        · rw [if_neg c2] at ij
          rw [if_pos (le_of' c2), b_116_33, nI_1]
          exact ij
  rw [b_116_0]
  exact key x.G 0 (by omega)
theorem x_broke {d nS t : Nat} {M0 : am_M} {x : Cx} {W B : Rw} {P : Nat} {M : am_M} {Q : Option Value → am_H → Prop} (h : KC 18 M0 M x W B) (hO : WOk x P W) (hP : P ≤ 2000000000) (hG : x.G ≤ 8) (ht : t < 10) : am_Wp (d + 1) 117 0 [.ref 18, .int (nI t), .int (lsC W x.G), .retAddr 0] [] (hp nS M) Q = Q (some (.int (bI (decide (¬ W (46 + t) = 1 ∧ brkD W x t = true))))) (hp nS M) := by
  have g10 : M 28 t = W (46 + t) := h.cw.ru t ht
  have g9 : M 27 t = W (36 + t) := h.cw.pu t ht
  have key : ∀ m j, j + m = x.G → noS W t j = true → am_Wp (d + 1) 117 2 [.ref 18, .int (nI t), .int (lsC W x.G), .int (nI j)] [] (hp nS M) Q = Q (some (.int (bI (decide (¬ W (46 + t) = 1 ∧ brkD W x t = true))))) (hp nS M) := by
    intro m
    induction m with
    | zero =>
      intro j hj hn
      have : j = x.G := by omega
      subst this
      rw [b_117_2, h.cw.fG, if_pos (Int32.le_refl _), b_117_27 (by first | exact in_n (by omega) (by omega) | (simp only [li, nI_add, pk_mul]; exact in_n (by omega) (by omega))), cl_n (by omega), g10]
      rcases hO.ru t ht with c | c
      · rw [if_neg (fun z => z c), b_117_36 (by first | exact in_n (by omega) (by omega) | (simp only [li, nI_add, pk_mul]; exact in_n (by omega) (by omega))), cl_n (by omega), g9]
        by_cases c0 : x.G = 0
        · obtain ⟨U, hU, hU2⟩ := hO.pu t ht
          have e0 : lsC W x.G = 0 := if_pos c0
          rw [e0, if_pos (by rw [hU, li, le_n (by omega) (by omega)]; omega), b_117_50, b_117_51 (by decide), decide_eq_false (fun z => by have := (brk_i.mp z.2).2.1; omega)]
          rfl
        · have e0 : lsC W x.G = lsM W x.G := if_neg c0
          rw [e0]
          by_cases c1 : lsM W x.G ≤ W (36 + t)
          · rw [if_pos c1, b_117_50, b_117_51 (by decide), decide_eq_false (fun z => (brk_i.mp z.2).2.2 c1)]
            rfl
          · rw [if_neg c1, b_117_46, b_117_51 (by decide), decide_eq_true ⟨by rw [c]; decide, brk_i.mpr ⟨hn, by omega, c1⟩⟩]
            rfl
      · rw [if_pos (by rw [c]; decide), b_117_50, b_117_51 (by decide), decide_eq_false (fun z => z.1 c)]
        rfl
    | succ m ih =>
      intro j hj hn
      have g11 : M 29 (8 * t + j) = W (56 + (8 * t + j)) := h.cw.st _ (by omega)
      rw [b_117_2, h.cw.fG, if_neg (by rw [le_n (by omega) (by omega)]; omega), b_117_10, c_110 (by rw [mul8]; exact in_n (by omega) (by omega)), mul8, cl_n (by omega), g11, am_ans_some, b_117_16]
      by_cases c : W (56 + (8 * t + j)) = 0
      · rw [if_pos c, b_117_21, nI_1]
        exact ih (j + 1) (by omega) (by rw [noS, hn, decide_eq_true c]; rfl)
      · rw [if_neg c, b_117_19, decide_eq_false (fun z => noS_f c (brk_i.mp z.2).1 (by omega))]
        rfl
  rw [b_117_0]
  exact key x.G 0 (by omega) rfl
theorem x_ruins {d nS : Nat} {M0 : am_M} {x : Cx} {p : Rw × Rw} {P : Nat} {M : am_M} {Q : Option Value → am_H → Prop} (h : KC 18 M0 M x p.1 p.2) (hT : x.T ≤ 10) (hG : x.G ≤ 8) (hO : WOk x P p.1) (hP : P ≤ 2000000000) (hQ : ∀ M', KC 18 M0 M' x (itr (ruS false x) p x.T).1 (itr (ruS false x) p x.T).2 → WOk x P (itr (ruS false x) p x.T).1 → Q none (hp nS M')) : am_Wp (d + 2) 100 0 [.ref 17, .ref 18, .int 1, .retAddr 0, .retAddr 0] [] (hp nS M) Q := by
  have hw : okw 18 := by unfold okw; omega
  have key : ∀ m j M, j + m = x.T → KC 18 M0 M x (itr (ruS false x) p j).1 (itr (ruS false x) p j).2 → WOk x P (itr (ruS false x) p j).1 → am_Wp (d + 2) 100 8 [.ref 17, .ref 18, .int 1, .int (lsC p.1 x.G), .int (nI j)] [] (hp nS M) Q := by
    intro m
    induction m with
    | zero =>
      intro j M hj h hO
      have : j = x.T := by omega
      subst this
      rw [b_100_8, h.cw.fT, if_pos (Int32.le_refl _), b_100_57]
      exact hQ M h hO
    | succ m ih =>
      intro j M hj h hO
      have el : lsC p.1 x.G = lsC (itr (ruS false x) p j).1 x.G := by
        unfold lsC
        rw [lsM_c x.G (fun k hk => (ruI_p false x p (by omega) j (fun t ht => by omega)).symm)]
      have nx : ∀ M', KC 18 M0 M' x (ruS false x j (itr (ruS false x) p j)).1 (ruS false x j (itr (ruS false x) p j)).2 → am_Wp (d + 2) 100 51 [.ref 17, .ref 18, .int 1, .int (lsC p.1 x.G), .int (nI j)] [] (hp nS M') Q := by
        intro M' h'
        rw [b_100_51, nI_1]
        exact ih (j + 1) M' (by omega) h' (ruS_ok hO hG (by omega) false)
      rw [b_100_8, h.cw.fT, if_neg (by rw [le_n (by omega) (by omega)]; omega), b_100_17]
      conv => rw [el]
      rw [x_broke h hO hP hG (by omega), am_ans_some, b_100_24, ← el]
      by_cases c : ¬ (itr (ruS false x) p j).1 (46 + j) = 1 ∧ brkD (itr (ruS false x) p j).1 x j = true
      · have e : ruS false x j (itr (ruS false x) p j) = nt false 4 (nI j) ((itr (ruS false x) p j).1 (36 + j)) (upd (itr (ruS false x) p j).1 (46 + j) 1, (itr (ruS false x) p j).2) := if_pos c
        rw [e] at nx
        have h1 := KC_ru h hw (show j < 10 by omega) 1
        have g9 : am_up M 28 j 1 27 j = upd (itr (ruS false x) p j).1 (46 + j) 1 (36 + j) := h1.cw.pu j (by omega)
        rw [decide_eq_true c, if_neg (show ¬ bI true = 0 by decide), b_100_27 (by first | exact in_n (by omega) (by omega) | (simp only [li, nI_add, pk_mul]; exact in_n (by omega) (by omega))) (by first | exact in_n (by omega) (by omega) | (simp only [li, nI_add, pk_mul]; exact in_n (by omega) (by omega))), cl_n (by omega), g9, upd_ne _ _ (by omega)]
        refine x_nt h1 ?_ (fun M2 h2 => ?_)
        · obtain ⟨q, q1, q2⟩ := hO.wr
          exact ⟨q, by rw [upd_ne _ _ (by omega)]; exact q1, q2⟩
        · rw [am_ans_none]
          exact nx M2 h2
      · have e : ruS false x j (itr (ruS false x) p j) = itr (ruS false x) p j := if_neg c
        rw [e] at nx
        rw [decide_eq_false c, if_pos (show bI false = 0 from rfl)]
        exact nx M h
  rw [b_100_0, x_least h hO hG, am_ans_some, b_100_4]
  exact key x.T 0 M (by omega) h hO
theorem x_leasti1 {d nS : Nat} {M0 : am_M} {x : Cx} {W B : Rw} {P : Nat} {M : am_M} {Q : Option Value → am_H → Prop} (h : KC 101 M0 M x W B) (hO : WOk x P W) (hG : x.G ≤ 8) : am_Wp d 116 0 [.ref 101, .retAddr 0, .retAddr 0] [] (hp nS M) Q = Q (some (.int (lsC W x.G))) (hp nS M) := by
  have key : ∀ m j, j + m = x.G → am_Wp d 116 4 [.ref 101, .int (lsC W j), .int (nI j)] [] (hp nS M) Q = Q (some (.int (lsC W x.G))) (hp nS M) := by
    intro m
    induction m with
    | zero =>
      intro j hj
      have : j = x.G := by omega
      subst this
      rw [b_116i1_4, h.cw.fG, if_pos (Int32.le_refl _), b_116i1_39]
    | succ m ih =>
      intro j hj
      obtain ⟨v, hv, h1, h999⟩ := hO.pr j (by omega)
      have g8 : M 109 j = W (28 + j) := h.cw.pr j (by omega)
      have e1 : lsC W (j + 1) = mnI (lsM W j) (W (28 + j)) := if_neg (by omega)
      have ij := ih (j + 1) (by omega)
      rw [e1] at ij
      rw [b_116i1_4, h.cw.fG, if_neg (by rw [le_n (by omega) (by omega)]; omega), b_116i1_12]
      by_cases c : j = 0
      · subst c
        rw [if_pos nI_0, b_116i1_26 (by first | exact in_n (by omega) (by omega) | (simp only [li, nI_add, pk_mul]; exact in_n (by omega) (by omega))), cl_n (by omega), g8, b_116i1_33, nI_1]
        have : mnI (lsM W 0) (W (28 + 0)) = W (28 + 0) := by
          rw [hv]; exact far_mn h999
        rw [this] at ij
        exact ij
      · have e0 : lsC W j = lsM W j := if_neg c
        rw [← mn_lt] at ij
        rw [if_neg (nI_ne0 (by omega) (by omega)), b_116i1_16 (by first | exact in_n (by omega) (by omega) | (simp only [li, nI_add, pk_mul]; exact in_n (by omega) (by omega))), cl_n (by omega), g8, e0]
        by_cases c2 : W (28 + j) < lsM W j
        · rw [if_pos c2] at ij
          rw [if_neg (not_le' c2), b_116i1_26 (by first | exact in_n (by omega) (by omega) | (simp only [li, nI_add, pk_mul]; exact in_n (by omega) (by omega))), cl_n (by omega), g8, b_116i1_33, nI_1]
          exact ij
        · rw [if_neg c2] at ij
          rw [if_pos (le_of' c2), b_116i1_33, nI_1]
          exact ij
  rw [b_116i1_0]
  exact key x.G 0 (by omega)
theorem x_brokei1 {d nS t : Nat} {M0 : am_M} {x : Cx} {W B : Rw} {P : Nat} {M : am_M} {Q : Option Value → am_H → Prop} (h : KC 101 M0 M x W B) (hO : WOk x P W) (hP : P ≤ 2000000000) (hG : x.G ≤ 8) (ht : t < 10) : am_Wp (d + 1) 117 0 [.ref 101, .int (nI t), .int (lsC W x.G), .retAddr 0] [] (hp nS M) Q = Q (some (.int (bI (decide (¬ W (46 + t) = 1 ∧ brkD W x t = true))))) (hp nS M) := by
  have g10 : M 111 t = W (46 + t) := h.cw.ru t ht
  have g9 : M 110 t = W (36 + t) := h.cw.pu t ht
  have key : ∀ m j, j + m = x.G → noS W t j = true → am_Wp (d + 1) 117 2 [.ref 101, .int (nI t), .int (lsC W x.G), .int (nI j)] [] (hp nS M) Q = Q (some (.int (bI (decide (¬ W (46 + t) = 1 ∧ brkD W x t = true))))) (hp nS M) := by
    intro m
    induction m with
    | zero =>
      intro j hj hn
      have : j = x.G := by omega
      subst this
      rw [b_117i1_2, h.cw.fG, if_pos (Int32.le_refl _), b_117i1_27 (by first | exact in_n (by omega) (by omega) | (simp only [li, nI_add, pk_mul]; exact in_n (by omega) (by omega))), cl_n (by omega), g10]
      rcases hO.ru t ht with c | c
      · rw [if_neg (fun z => z c), b_117i1_36 (by first | exact in_n (by omega) (by omega) | (simp only [li, nI_add, pk_mul]; exact in_n (by omega) (by omega))), cl_n (by omega), g9]
        by_cases c0 : x.G = 0
        · obtain ⟨U, hU, hU2⟩ := hO.pu t ht
          have e0 : lsC W x.G = 0 := if_pos c0
          rw [e0, if_pos (by rw [hU, li, le_n (by omega) (by omega)]; omega), b_117i1_50, b_117i1_51 (by decide), decide_eq_false (fun z => by have := (brk_i.mp z.2).2.1; omega)]
          rfl
        · have e0 : lsC W x.G = lsM W x.G := if_neg c0
          rw [e0]
          by_cases c1 : lsM W x.G ≤ W (36 + t)
          · rw [if_pos c1, b_117i1_50, b_117i1_51 (by decide), decide_eq_false (fun z => (brk_i.mp z.2).2.2 c1)]
            rfl
          · rw [if_neg c1, b_117i1_46, b_117i1_51 (by decide), decide_eq_true ⟨by rw [c]; decide, brk_i.mpr ⟨hn, by omega, c1⟩⟩]
            rfl
      · rw [if_pos (by rw [c]; decide), b_117i1_50, b_117i1_51 (by decide), decide_eq_false (fun z => z.1 c)]
        rfl
    | succ m ih =>
      intro j hj hn
      have g11 : M 112 (8 * t + j) = W (56 + (8 * t + j)) := h.cw.st _ (by omega)
      rw [b_117i1_2, h.cw.fG, if_neg (by rw [le_n (by omega) (by omega)]; omega), b_117i1_10, c_110i1 (by rw [mul8]; exact in_n (by omega) (by omega)), mul8, cl_n (by omega), g11, am_ans_some, b_117i1_16]
      by_cases c : W (56 + (8 * t + j)) = 0
      · rw [if_pos c, b_117i1_21, nI_1]
        exact ih (j + 1) (by omega) (by rw [noS, hn, decide_eq_true c]; rfl)
      · rw [if_neg c, b_117i1_19, decide_eq_false (fun z => noS_f c (brk_i.mp z.2).1 (by omega))]
        rfl
  rw [b_117i1_0]
  exact key x.G 0 (by omega) rfl
theorem x_ruinsi1 {d nS : Nat} {M0 : am_M} {x : Cx} {p : Rw × Rw} {P : Nat} {M : am_M} {Q : Option Value → am_H → Prop} (h : KC 101 M0 M x p.1 p.2) (hT : x.T ≤ 10) (hG : x.G ≤ 8) (hO : WOk x P p.1) (hP : P ≤ 2000000000) (hQ : ∀ M', KC 101 M0 M' x (itr (ruS true x) p x.T).1 (itr (ruS true x) p x.T).2 → WOk x P (itr (ruS true x) p x.T).1 → Q none (hp nS M')) : am_Wp (d + 2) 100 0 [.ref 17, .ref 101, .int 0, .retAddr 0, .retAddr 0] [] (hp nS M) Q := by
  have hw : okw 101 := by unfold okw; omega
  have key : ∀ m j M, j + m = x.T → KC 101 M0 M x (itr (ruS true x) p j).1 (itr (ruS true x) p j).2 → WOk x P (itr (ruS true x) p j).1 → am_Wp (d + 2) 100 8 [.ref 17, .ref 101, .int 0, .int (lsC p.1 x.G), .int (nI j)] [] (hp nS M) Q := by
    intro m
    induction m with
    | zero =>
      intro j M hj h hO
      have : j = x.T := by omega
      subst this
      rw [b_100i1_8, h.cw.fT, if_pos (Int32.le_refl _), b_100i1_57]
      exact hQ M h hO
    | succ m ih =>
      intro j M hj h hO
      have el : lsC p.1 x.G = lsC (itr (ruS true x) p j).1 x.G := by
        unfold lsC
        rw [lsM_c x.G (fun k hk => (ruI_p true x p (by omega) j (fun t ht => by omega)).symm)]
      have nx : ∀ M', KC 101 M0 M' x (ruS true x j (itr (ruS true x) p j)).1 (ruS true x j (itr (ruS true x) p j)).2 → am_Wp (d + 2) 100 51 [.ref 17, .ref 101, .int 0, .int (lsC p.1 x.G), .int (nI j)] [] (hp nS M') Q := by
        intro M' h'
        rw [b_100i1_51, nI_1]
        exact ih (j + 1) M' (by omega) h' (ruS_ok hO hG (by omega) true)
      rw [b_100i1_8, h.cw.fT, if_neg (by rw [le_n (by omega) (by omega)]; omega), b_100i1_17]
      conv => rw [el]
      rw [x_brokei1 h hO hP hG (by omega), am_ans_some, b_100i1_24, ← el]
      by_cases c : ¬ (itr (ruS true x) p j).1 (46 + j) = 1 ∧ brkD (itr (ruS true x) p j).1 x j = true
      · have e : ruS true x j (itr (ruS true x) p j) = nt true 4 (nI j) ((itr (ruS true x) p j).1 (36 + j)) (upd (itr (ruS true x) p j).1 (46 + j) 1, (itr (ruS true x) p j).2) := if_pos c
        rw [e] at nx
        have h1 := KC_ru h hw (show j < 10 by omega) 1
        have g9 : am_up M 111 j 1 110 j = upd (itr (ruS true x) p j).1 (46 + j) 1 (36 + j) := h1.cw.pu j (by omega)
        rw [decide_eq_true c, if_neg (show ¬ bI true = 0 by decide), b_100i1_27 (by first | exact in_n (by omega) (by omega) | (simp only [li, nI_add, pk_mul]; exact in_n (by omega) (by omega))) (by first | exact in_n (by omega) (by omega) | (simp only [li, nI_add, pk_mul]; exact in_n (by omega) (by omega))), cl_n (by omega), g9, upd_ne _ _ (by omega)]
        refine x_nti1 h1 ?_ (fun M2 h2 => ?_)
        · obtain ⟨q, q1, q2⟩ := hO.wr
          exact ⟨q, by rw [upd_ne _ _ (by omega)]; exact q1, q2⟩
        · rw [am_ans_none]
          exact nx M2 h2
      · have e : ruS true x j (itr (ruS true x) p j) = itr (ruS true x) p j := if_neg c
        rw [e] at nx
        rw [decide_eq_false c, if_pos (show bI false = 0 from rfl)]
        exact nx M h
  rw [b_100i1_0, x_leasti1 h hO hG, am_ans_some, b_100i1_4]
  exact key x.T 0 M (by omega) h hO
end
