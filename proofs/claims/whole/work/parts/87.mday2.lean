section
abbrev MDn (M : am_M) (d : Dn) : Prop := (M 205 37 = nI d.n) ∧ (∀ j, j < d.n → M 222 (4 * j) = nI (d.day j)) ∧ (∀ j, j < d.n → M 222 (4 * j + 1) = nI (d.kd j)) ∧ (∀ j, j < d.n → M 222 (4 * j + 2) = nI (d.wo j)) ∧ (∀ j, j < d.n → M 222 (4 * j + 3) = nI (d.mn j))
theorem MDn.n {M : am_M} {d : Dn} (zz : MDn M d) : M 205 37 = nI d.n := zz.1
theorem MDn.day {M : am_M} {d : Dn} (zz : MDn M d) : ∀ j, j < d.n → M 222 (4 * j) = nI (d.day j) := zz.2.1
theorem MDn.kd {M : am_M} {d : Dn} (zz : MDn M d) : ∀ j, j < d.n → M 222 (4 * j + 1) = nI (d.kd j) := zz.2.2.1
theorem MDn.wo {M : am_M} {d : Dn} (zz : MDn M d) : ∀ j, j < d.n → M 222 (4 * j + 2) = nI (d.wo j) := zz.2.2.2.1
theorem MDn.mn {M : am_M} {d : Dn} (zz : MDn M d) : ∀ j, j < d.n → M 222 (4 * j + 3) = nI (d.mn j) := zz.2.2.2.2
abbrev MTr (M : am_M) (t : Tr) : Prop := (M 205 39 = nI t.n) ∧ (∀ j, j < t.n → M 223 (4 * j) = nI (t.day j)) ∧ (∀ j, j < t.n → M 223 (4 * j + 1) = nI (t.wo j)) ∧ (∀ j, j < t.n → M 223 (4 * j + 2) = if t.bu j = true then nI (t.mn j) else -nI (t.mn j)) ∧ (∀ j, j < t.n → M 223 (4 * j + 3) = nI (t.gd j))
theorem MTr.n {M : am_M} {t : Tr} (zz : MTr M t) : M 205 39 = nI t.n := zz.1
theorem MTr.day {M : am_M} {t : Tr} (zz : MTr M t) : ∀ j, j < t.n → M 223 (4 * j) = nI (t.day j) := zz.2.1
theorem MTr.wo {M : am_M} {t : Tr} (zz : MTr M t) : ∀ j, j < t.n → M 223 (4 * j + 1) = nI (t.wo j) := zz.2.2.1
theorem MTr.mn {M : am_M} {t : Tr} (zz : MTr M t) : ∀ j, j < t.n → M 223 (4 * j + 2) = if t.bu j = true then nI (t.mn j) else -nI (t.mn j) := zz.2.2.2.1
theorem MTr.gd {M : am_M} {t : Tr} (zz : MTr M t) : ∀ j, j < t.n → M 223 (4 * j + 3) = nI (t.gd j) := zz.2.2.2.2
theorem st_at (t g : Nat) : ((56 : Int32) + 8 * nI t) + nI g = nI (56 + (8 * t + g)) := by
  have : (8 : Int32) * nI t = nI (8 * t) := pk_mul 8 t
  rw [this, adl, nI_add, Nat.add_assoc]
theorem m_does {d nS j : Nat} {M0 : am_M} {x : Cx} {W B : Rw} {dn : Dn} {M : am_M} {Q : Option Value → am_H → Prop} (h : KM M0 M W B) (hD : MDn M0 dn) (hk : DnOk x dn) (hL : x.L ≤ 6) (hj : j < dn.n) (hQ : ∀ M', KM M0 M' (dwD (dn.kd j) (dn.wo j) (dn.mn j) W) B → Q none (hp nS M')) : am_Wp (d + 1) 230 0 [.ref 205, .int (nI (4 * j)), .retAddr 0] [] (hp nS M) Q := by
  have h16 := hk.n16
  have e222 : ∀ {W B : Rw} {M : am_M}, KM M0 M W B → M 222 = M0 222 := fun h => h.fr 222 (by decide) (by decide) (by decide) (by decide)
  have c1 : ∀ {W B : Rw} {M : am_M}, KM M0 M W B → M 222 (4 * j + 1) = nI (dn.kd j) := fun h => by rw [e222 h]; exact hD.kd j hj
  have c2 : M 222 (4 * j + 2) = nI (dn.wo j) := by rw [e222 h]; exact hD.wo j hj
  have c3 : M 222 (4 * j + 3) = nI (dn.mn j) := by rw [e222 h]; exact hD.mn j hj
  have a1 : nI (4 * j) + 1 = nI (4 * j + 1) := nI_add _ 1
  have a2 : nI (4 * j) + 2 = nI (4 * j + 2) := nI_add _ 2
  have a3 : nI (4 * j) + 3 = nI (4 * j + 3) := nI_add _ 3
  have i1 : vp_in (nI (4 * j) + 1) 128 := by rw [a1]; exact in_n (by omega) (by omega)
  have h3 := hk.kd j hj
  have hw9 := hk.w9 j hj
  rw [b_230_0 (by rw [a2]; exact in_n (by omega) (by omega)) i1, a1, a2, cl_n (by omega), cl_n (by omega), c1 h, c2]
  have hkd : dn.kd j = 0 ∨ dn.kd j = 1 ∨ dn.kd j = 2 ∨ dn.kd j = 3 := by omega
  rcases hkd with k | k | k | k
  · have hwo := hk.wo j hj (by omega)
    rw [k] at hQ c1 ⊢
    rw [if_neg (fun z => z rfl), b_230_20 (by rw [adl]; exact in_n (by omega) (by omega)) (by rw [a3]; exact in_n (by omega) (by omega)), a3, adl, cl_n (by omega), cl_n (by omega), c3, h.w, c_225, am_ans_some, b_230_52 (by first | exact in_n (by omega) (by omega) | (simp only [li, nI_add, pk_mul]; exact in_n (by omega) (by omega))), cl_n (by omega)]
    have h1 := KM_W h (22 + dn.wo j) (mnI 9 (W (22 + dn.wo j) + nI (dn.mn j)))
    have c1' := c1 h1
    unfold mnI at h1 c1'
    rw [b_230_53 i1, a1, cl_n (by omega), c1', if_pos (by decide), b_230_75 i1, a1, cl_n (by omega), c1', if_pos (by decide), b_230_94 i1, a1, cl_n (by omega), c1', if_pos (by decide), b_230_119]
    exact hQ _ h1
  · have hwo := hk.wo j hj (by omega)
    rw [k] at hQ c1 ⊢
    have h1 := KM_W h (22 + dn.wo j) 0
    have c1' := c1 h1
    rw [if_pos (show ¬ nI 1 = 0 by decide), b_230_53 i1, a1, cl_n (by omega), c1 h, if_neg (fun z => z rfl), b_230_65 (by rw [adl]; exact in_n (by omega) (by omega)), adl, cl_n (by omega), b_230_75 i1, a1, cl_n (by omega), c1', if_pos (by decide), b_230_94 i1, a1, cl_n (by omega), c1', if_pos (by decide), b_230_119]
    exact hQ _ h1
  · have hwo := hk.wo j hj (by omega)
    rw [k] at hQ c1 ⊢
    rw [if_pos (show ¬ nI 2 = 0 by decide), b_230_53 i1, a1, cl_n (by omega), c1 h, if_pos (by decide), b_230_75 i1, a1, cl_n (by omega), c1 h, if_pos (by decide), b_230_94 i1, a1, cl_n (by omega), c1 h, if_neg (fun z => z rfl), b_230_106, c_222 (by rw [adl]; exact in_n (by omega) (by omega)), am_ans_some, b_230_111]
    have ec : ((16 : Int32) + nI (dn.wo j)).toNatClampNeg = 16 + dn.wo j := by rw [adl]; exact cl_n (by omega)
    by_cases cl : W (16 + dn.wo j) = 1
    · have e2 : dwD 2 (dn.wo j) (dn.mn j) W = upd (upd W (16 + dn.wo j) 0) (4 + dn.wo j) 0 := if_pos cl
      rw [e2] at hQ
      rw [ite0_t (show ¬ ¬ M 206 ((16 : Int32) + nI (dn.wo j)).toNatClampNeg = 1 from fun z => z (by rw [ec, h.w]; exact cl)), b_230_114, c_227 (by rw [adl]; exact in_n (by omega) (by omega)) (by rw [adl]; exact in_n (by omega) (by omega)), adl, adl, cl_n (by omega), cl_n (by omega), am_ans_none, b_230_119]
      exact hQ _ (KM_W (KM_W h (16 + dn.wo j) 0) (4 + dn.wo j) 0)
    · have e2 : dwD 2 (dn.wo j) (dn.mn j) W = W := if_neg cl
      rw [e2] at hQ
      rw [ite0_f (show ¬ ¬ ¬ M 206 ((16 : Int32) + nI (dn.wo j)).toNatClampNeg = 1 from fun z => z (by rw [ec, h.w]; exact cl)), b_230_119]
      exact hQ M h
  · rw [k] at hQ c1 ⊢
    have h1 := KM_W h 3 (nI (dn.wo j))
    have c1' := c1 h1
    rw [if_pos (show ¬ nI 3 = 0 by decide), b_230_53 i1, a1, cl_n (by omega), c1 h, if_pos (by decide), b_230_75 i1, a1, cl_n (by omega), c1 h, if_neg (fun z => z rfl), b_230_87, b_230_94 i1, a1, cl_n (by omega), c1', if_pos (by decide), b_230_119]
    exact hQ _ h1
theorem neg_le : ∀ n, n < 100 → 1 ≤ n → (-nI n ≤ 0 ∧ ¬ nI n ≤ 0) := by decide +kernel
theorem m_trade {d nS t g n : Nat} {M0 : am_M} {x : Cx} {l : Lw} {W B : Rw} {P : Nat} {th : Bool} {M : am_M} {Q : Option Value → am_H → Prop} (h : KM M0 M W B) (hs : Stm M0 l x th) (hO : WOk x P W) (hP : P + 98901 ≤ 2000000000) (ht : t < 10) (hg : g < x.G) (bu : Bool) (hn1 : 1 ≤ n) (hn : n ≤ 99) (hQ : ∀ M', KM M0 M' (trP th t g bu n (W, B)).1 (trP th t g bu n (W, B)).2 → Q none (hp nS M')) : am_Wp (d + 1) 224 0 [.ref 205, .int (nI t), .int (nI g), .int (if bu = true then nI n else -nI n), .retAddr 0, .retAddr 0, .retAddr 0] [] (hp nS M) Q := by
  have hG := hs.G8
  obtain ⟨U, p, S, k, hU, hU2, hp1, hp2, hp3, hS, hS2, hk, hkn, hb, hsl⟩ := trN_n hO (by omega) ht hg hG hn bu
  obtain ⟨n1, n2⟩ := neg_le n (by omega) hn1
  have m36 : (36 : Int32) + nI t = nI (36 + t) := adl 36 t
  have i36 : vp_in ((36 : Int32) + nI t) 136 := by rw [m36]; exact in_n (by omega) (by omega)
  have iat : vp_in (nI (56 + (8 * t + g))) 136 := in_n (by omega) (by omega)
  have done : trN W t g bu n = 0 → Q none (hp nS M) := by
    intro c
    have e : trP th t g bu n (W, B) = (W, B) := if_pos c
    rw [e] at hQ
    exact hQ M h
  rw [b_224_0 (by rw [adl]; exact in_n (by omega) (by omega)), adl, cl_n (by omega), h.w, hp1, c_173, st_at, am_ans_some, b_224_17]
  have h1 := KM_W h (36 + t) (W (36 + t) + (if bu = true then -nI k else nI k) * W (28 + g))
  have h2 := KM_W h1 (56 + (8 * t + g)) (W (56 + (8 * t + g)) + (if bu = true then nI k else -nI k))
  have w56 : upd W (36 + t) (W (36 + t) + (if bu = true then -nI k else nI k) * W (28 + g)) (56 + (8 * t + g)) = W (56 + (8 * t + g)) := upd_ne _ _ (by omega)
  have hwr : wrO (trW W t g bu (nI k)) := by
    obtain ⟨q, q1, q2⟩ := hO.wr
    exact ⟨q, by unfold trW; rw [upd_ne _ _ (by omega), upd_ne _ _ (by omega)]; exact q1, q2⟩
  have fin : ∀ {wh : Int32} {x3 x4 x5 x6 : Int32}, ¬ k = 0 → wh = (if bu = true then 2 else 3) → x6 = nI k → am_Wp (d + 1) 224 149 [.ref 205, .int (nI t), .int (nI g), .int x3, .int x4, .int x5, .int x6] [.int wh, .ref 205] (hp nS (am_up (am_up M 206 (36 + t) (W (36 + t) + (if bu = true then -nI k else nI k) * W (28 + g))) 206 (56 + (8 * t + g)) (W (56 + (8 * t + g)) + (if bu = true then nI k else -nI k)))) Q := by
    intro wh x3 x4 x5 x6 hk0 hwh hx6
    subst hwh hx6
    rw [b_224_149]
    refine m_nt h2 hs hwr (fun M' h' => ?_)
    rw [am_ans_none, b_224_155]
    have e : trP th t g bu n (W, B) = nt th (if bu = true then 2 else 3) (nI t) (nI k) (trW W t g bu (nI k), B) := by
      unfold trP
      rw [if_neg (show ¬ trN (W, B).1 t g bu n = 0 by show ¬ trN W t g bu n = 0; rw [hk]; exact nI_ne0 (by omega) (by omega))]
      show nt th (if bu = true then 2 else 3) (nI t) (trN W t g bu n) (trW W t g bu (trN W t g bu n), B) = _
      rw [hk]
    rw [e] at hQ
    exact hQ M' h'
  cases bu with
  | true =>
    have ek : mnI (nI n) (mnI (nI U / nI p) (99 - nI S)) = nI k := by
      have := hk
      unfold trN at this
      rw [if_pos rfl, hU, hp1, hS] at this
      exact this
    simp only [if_true] at *
    rw [if_neg n2, b_224_23 i36 (nI_ne0 (by omega) (by omega)) iat, m36, cl_n (by omega), cl_n (by omega), h.w, hU, hS, c_225, am_ans_some, b_224_51, c_225, am_ans_some, b_224_54]
    show am_Wp (d + 1) 224 70 _ [.int (mnI (nI n) (mnI (nI U / nI p) (99 - nI S)))] (hp nS M) Q
    rw [ek, b_224_70]
    by_cases c : k = 0
    · rw [if_neg (fun z => z (by rw [c]; rfl)), b_224_77]
      exact done (by rw [hk, c]; rfl)
    · rw [if_pos (nI_ne0 (by omega) (by omega)), b_224_78 i36, if_neg n2, m36, cl_n (by omega), h.w, b_224_99, b_224_107 (by first | exact in_n (by omega) (by omega) | (simp only [li, nI_add, pk_mul]; exact in_n (by omega) (by omega))) iat, if_neg n2, cl_n (by omega), cl_n (by omega), ← hp1, h1.w, w56, b_224_129, b_224_137 iat, if_neg n2, cl_n (by omega), b_224_144]
      exact fin c rfl rfl
  | false =>
    have ek : mnI (nI n) (nI S) = nI k := by
      have := hk
      unfold trN at this
      rw [if_neg (by decide), hS] at this
      exact this
    simp only [if_neg (show ¬ false = true by decide)] at *
    rw [if_pos n1, b_224_57 iat, cl_n (by omega), h.w, hS, Int32.neg_neg, c_225, am_ans_some]
    show am_Wp (d + 1) 224 70 _ [.int (mnI (nI n) (nI S))] (hp nS M) Q
    rw [ek, b_224_70]
    by_cases c : k = 0
    · rw [if_neg (fun z => z (by rw [c]; rfl)), b_224_77]
      exact done (by rw [hk, c]; rfl)
    · rw [if_pos (nI_ne0 (by omega) (by omega)), b_224_78 i36, if_pos n1, m36, cl_n (by omega), h.w, b_224_105, b_224_107 (by first | exact in_n (by omega) (by omega) | (simp only [li, nI_add, pk_mul]; exact in_n (by omega) (by omega))) iat, if_pos n1, cl_n (by omega), cl_n (by omega), ← hp1, h1.w, w56, b_224_134, b_224_137 iat, if_pos n1, cl_n (by omega), b_224_148]
      exact fin c rfl rfl
theorem m_broke {d nS t : Nat} {M0 : am_M} {x : Cx} {l : Lw} {W B : Rw} {P : Nat} {th : Bool} {M : am_M} {Q : Option Value → am_H → Prop} (h : KM M0 M W B) (hs : Stm M0 l x th) (hO : WOk x P W) (ht : t < 10) : am_Wp (d + 1) 244 0 [.ref 205, .int (nI t), .retAddr 0, .retAddr 0] [] (hp nS M) Q = Q (some (.int (bI (brkD W x t)))) (hp nS M) := by
  have hG := hs.G8
  have g9 : M 205 9 = nI x.G := by rw [h.fr 205 (by decide) (by decide) (by decide) (by decide)]; exact hs.mx.fG
  have m36 : (36 : Int32) + nI t = nI (36 + t) := adl 36 t
  have key : ∀ m j, j + m = x.G → noS W t j = true → am_Wp (d + 1) 244 6 [.ref 205, .int (nI t), .int (lsM W j), .int (nI j)] [] (hp nS M) Q = Q (some (.int (bI (brkD W x t)))) (hp nS M) := by
    intro m
    induction m with
    | zero =>
      intro j hj hn
      have : j = x.G := by omega
      subst this
      rw [b_244_6, g9, if_pos (Int32.le_refl _), b_244_51, g9]
      by_cases c0 : x.G = 0
      · rw [if_pos (by rw [c0]; decide), b_244_75, b_244_76 (by decide), (show brkD W x t = false from Bool.eq_false_iff.mpr (fun z => by have := (brk_i.mp z).2.1; omega))]
        rfl
      · rw [if_neg (by rw [li, le_n (by omega) (by omega)]; omega), b_244_58 (by rw [m36]; exact in_n (by omega) (by omega)), m36, cl_n (by omega), h.w]
        by_cases c1 : lsM W x.G ≤ W (36 + t)
        · rw [if_pos c1, b_244_75, b_244_76 (by decide), (show brkD W x t = false from Bool.eq_false_iff.mpr (fun z => (brk_i.mp z).2.2 c1))]
          rfl
        · rw [if_neg c1, b_244_71, b_244_76 (by decide), show brkD W x t = true from brk_i.mpr ⟨hn, by omega, c1⟩]
          rfl
    | succ m ih =>
      intro j hj hn
      obtain ⟨S, hS, hS2⟩ := hO.st (8 * t + j) (by omega)
      rw [b_244_6, g9, if_neg (by rw [le_n (by omega) (by omega)]; omega), b_244_14, c_173, st_at, am_ans_some, b_244_24 (by first | exact in_n (by omega) (by omega) | (simp only [li, nI_add, pk_mul]; exact in_n (by omega) (by omega))), cl_n (by omega), h.w, hS]
      by_cases c : S = 0
      · rw [if_pos (by rw [c]; decide), b_244_30 (by rw [adl]; exact in_n (by omega) (by omega)), adl, cl_n (by omega), h.w, c_225, am_ans_some, b_244_44, nI_1]
        exact ih (j + 1) (by omega) (by rw [noS, hn, decide_eq_true (show W (56 + (8 * t + j)) = 0 by rw [hS, c]; rfl)]; rfl)
      · rw [if_neg (by rw [li, le_n (by omega) (by omega)]; omega), b_244_28, (show brkD W x t = false from Bool.eq_false_iff.mpr (fun z => noS_f (show ¬ W (56 + (8 * t + j)) = 0 by rw [hS]; exact nI_ne0 (by omega) (by omega)) (brk_i.mp z).1 (by omega)))]
        rfl
  rw [b_244_0]
  exact key x.G 0 (by omega) rfl
end
