section
def RD (x : Cx) (d : Dn) (M : am_M) : Prop := CDn 196 M d ∧ DnOk x d
theorem RD_add {x : Cx} {d : Dn} {M M' : am_M} {da k w m : Nat} {x4 : Int32} (h : RD x d M) (hn : d.n < 16) (g0 : M' 196 1 = nI (d.n + 1)) (g1 : M' 197 (5 * d.n) = nI da) (g2 : M' 197 (5 * d.n + 1) = nI (kdC k)) (g3 : M' 197 (5 * d.n + 2) = x4) (g4 : M' 197 (5 * d.n + 3) = nI (if k = 3 then w else m)) (gf : ∀ a q, ¬ (a = 196 ∧ q = 1) → ¬ (a = 197 ∧ 5 * d.n ≤ q) → M' a q = M a q) (h1 : k ≤ 3) (h2 : k ≠ 3 → w < x.L ∧ x4 = nI w) (h3 : w ≤ 9) (h4 : m ≤ 9) (h5 : da ≤ 999) : RD x (addD d da k w m) M' := by
  obtain ⟨hc, hk⟩ := h
  have ne : ∀ {i}, i < d.n + 1 → ¬ i = d.n → i < d.n := fun h1 h2 => by omega
  refine ⟨⟨g0, fun i hi => ?_, fun i hi => ?_, fun i hi => ?_, fun i hi => ?_⟩, ⟨by show d.n + 1 ≤ 16; omega, fun i hi => ?_, fun i hi => ?_, fun i hi => ?_, fun i hi => ?_, fun i hi => ?_⟩⟩
  · show M' 197 (5 * i) = nI (nu d.day d.n da i)
    by_cases e : i = d.n
    · rw [e, nu_same]; exact g1
    · rw [nu_ne _ _ e, gf _ _ (by omega) (by have := ne hi e; omega)]; exact hc.day i (ne hi e)
  · show M' 197 (5 * i + 1) = nI (kdC (nu d.kd d.n k i))
    by_cases e : i = d.n
    · rw [e, nu_same]; exact g2
    · rw [nu_ne _ _ e, gf _ _ (by omega) (by have := ne hi e; omega)]; exact hc.kd i (ne hi e)
  · show nu d.kd d.n k i ≠ 3 → M' 197 (5 * i + 2) = nI (nu d.wo d.n w i)
    by_cases e : i = d.n
    · rw [e, nu_same, nu_same]; exact fun z => g3.trans (h2 z).2
    · rw [nu_ne _ _ e, nu_ne _ _ e, gf _ _ (by omega) (by have := ne hi e; omega)]; exact hc.wo i (ne hi e)
  · show M' 197 (5 * i + 3) = nI (if nu d.kd d.n k i = 3 then nu d.wo d.n w i else nu d.mn d.n m i)
    by_cases e : i = d.n
    · rw [e, nu_same, nu_same, nu_same]; exact g4
    · rw [nu_ne _ _ e, nu_ne _ _ e, nu_ne _ _ e, gf _ _ (by omega) (by have := ne hi e; omega)]; exact hc.mn i (ne hi e)
  · show nu d.kd d.n k i ≤ 3
    by_cases e : i = d.n
    · rw [e, nu_same]; exact h1
    · rw [nu_ne _ _ e]; exact hk.kd i (ne hi e)
  · show nu d.kd d.n k i ≠ 3 → nu d.wo d.n w i < x.L
    by_cases e : i = d.n
    · rw [e, nu_same, nu_same]; exact fun z => (h2 z).1
    · rw [nu_ne _ _ e, nu_ne _ _ e]; exact hk.wo i (ne hi e)
  · show nu d.wo d.n w i ≤ 9
    by_cases e : i = d.n
    · rw [e, nu_same]; exact h3
    · rw [nu_ne _ _ e]; exact hk.w9 i (ne hi e)
  · show nu d.mn d.n m i ≤ 9
    by_cases e : i = d.n
    · rw [e, nu_same]; exact h4
    · rw [nu_ne _ _ e]; exact hk.mn i (ne hi e)
  · show nu d.day d.n da i ≤ 999
    by_cases e : i = d.n
    · rw [e, nu_same]; exact h5
    · rw [nu_ne _ _ e]; exact hk.da i (ne hi e)
theorem n0 {v : Nat} (h : v < 2147483648) : (0 : Int32) ≤ nI v := by rw [li, le_n (by omega) h]; omega
theorem x_dawn {e nS n N j : Nat} {tp : Nat → Nat} {c : CS} {x : Cx} {dn : Dn} {M : am_M} {Q : Option Value → am_H → Prop} (hT : TK tp n N M) (p0 : PC tp n N j c M M) (hr : RD x dn M) (hn : dn.n < 16) (hk : kK tp n j = 16) (hL : M 18 0 = nI x.L) (h6 : x.L ≤ 6) (hE : ∀ er M', lnD (kK tp n) (kV tp n) x.L j dn = .error er → FC tp n er M M' → Q (some (.int 0)) (hp nS M')) (hO : ∀ r M', lnD (kK tp n) (kV tp n) x.L j dn = .ok r → PC tp n N r.1 c M' M' → RD x r.2 M' → r.2.n = dn.n + 1 → fT M M' → Q (some (.int 1)) (hp nS M')) : am_Wp (e + 2) 60 0 [.ref 187, .ref 18, .retAddr 0, .retAddr 0, .retAddr 0, .retAddr 0] [] (hp nS M) Q := by
  have hte := TE_of hT
  have hj := p0.jn
  have hj1 : j + 1 ≤ N := TE_s hte hj (by omega)
  have fin : ∀ (jj da k w m : Nat) (x4 : Int32) (A : am_M), PC tp n N jj c M A → lnD (kK tp n) (kV tp n) x.L j dn = .ok (jj, addD dn da k w m) → k ≤ 3 → (k ≠ 3 → w < x.L ∧ x4 = nI w) → w ≤ 9 → m ≤ 9 → da ≤ 999 → am_Wp (e + 2) 60 142 [.ref 187, .ref 18, .int (nI da), .int (nI (kdC k)), .int x4, .int (nI (if k = 3 then w else m))] [] (hp nS A) Q := by
    intro jj da k w m x4 A p hl h1 h2 h3 h4 h5
    rw [b_60_142]
    refine x_34 (n := dn.n) (by rw [p.f _ _ (by omega)]; exact hr.1.n) hn (fun M' g0 g1 g2 g3 g4 g5 gf => ?_)
    rw [am_ans_none, b_60_156]
    have gc : ∀ a q, ¬ (a = 196 ∨ a = 197) → M' a q = A a q := fun a q hq => gf a q (by omega) (by omega)
    have rA : RD x dn A := ⟨⟨by rw [p.f _ _ (by omega)]; exact hr.1.n, fun i hi => by rw [p.f _ _ (by omega)]; exact hr.1.day i hi, fun i hi => by rw [p.f _ _ (by omega)]; exact hr.1.kd i hi, fun i hi hk => by rw [p.f _ _ (by omega)]; exact hr.1.wo i hi hk, fun i hi => by rw [p.f _ _ (by omega)]; exact hr.1.mn i hi⟩, hr.2⟩
    exact hO _ M' hl ⟨by rw [gc _ _ (by omega)]; exact p.i, p.jn, by rw [gc _ _ (by omega)]; exact p.u, fun i hi => by rw [gc _ _ (by omega)]; exact p.cd i hi, fun _ _ _ => rfl⟩ (RD_add rA hn g0 g1 g2 g3 g4 gf h1 h2 h3 h4 h5) rfl (fun a q hq => by rw [gc _ _ (by omega)]; exact p.f a q (by omega))
  unfold lnD at hE fin
  rw [b_60_0]
  refine x_num (lo := 0) (hx := 1000) rfl rfl (by omega) (by omega) hT (PC_at p0 hj1) (fun er M' he hf => ?_) (fun da M1 hda p1 => ?_)
  · rw [am_ans_some, b_60_18, if_neg (by decide), b_60_23]
    exact hE er M' (by rw [he]) hf
  have d1 := (pN_ok hda).2.2
  rw [hda] at hE fin
  rw [am_ans_some, b_60_18, if_pos (n0 (by omega)), b_60_25, x_kd hT p1, am_ans_some, b_60_29]
  have nx : kK tp n (j + 1 + 1) ≠ 37 → j + 1 + 1 + 1 ≤ N := fun z => TE_s hte p1.jn z
  have eL : ∀ A, PC tp n N (j + 1 + 1 + 1) c M A → A 18 0 - 1 = nI x.L - 1 := fun A p => by rw [p.f _ _ (by omega), hL]
  by_cases c11 : kK tp n (j + 1 + 1) = 11
  · have p2 := PC_at p1 (nx (by omega))
    rw [c11, if_neg (by decide), b_60_36, if_neg (by decide), b_60_42, if_pos (by decide), b_60_60, if_neg (by decide), b_60_76, b_60_91, if_pos (by decide), b_60_100, if_pos (by decide), b_60_116, if_neg (by decide), b_60_122]
    refine x_num (lo := 0) (hx := 10) rfl rfl (by omega) (by omega) hT p2 (fun er M' he hf => ?_) (fun w M2 hw p3 => ?_)
    · rw [am_ans_some, b_60_129, b_60_133, if_neg (by decide), b_60_140]
      refine hE er M' ?_ hf
      show (if _ then _ else _) = _
      rw [if_pos c11, he]
    · have w1 := (pN_ok hw).2.2
      rw [am_ans_some, b_60_129, b_60_133, if_pos (n0 (by omega))]
      refine fin (j + 1 + 1 + 1 + 1) da 3 w 0 0 M2 p3 ?_ (by omega) (fun z => absurd rfl z) (by omega) (by omega) (by omega)
      show (if _ then _ else _) = _
      rw [if_pos c11, hw]
  by_cases c17 : kK tp n (j + 1 + 1) = 17
  · have p2 := PC_at p1 (nx (by omega))
    rw [c17, if_pos (by decide), b_60_60, if_pos (by decide), b_60_80, eL _ p2]
    refine x_num (lo := 0) (hx := x.L) rfl rfl (by omega) (by omega) hT p2 (fun er M' he hf => ?_) (fun w M2 hw p3 => ?_)
    · rw [am_ans_some, b_60_91, if_neg (by decide), b_60_98]
      refine hE er M' ?_ hf
      show (if _ then _ else _) = _
      rw [if_neg c11, if_pos c17, he]
    · have w1 := (pN_ok hw).2.2
      rw [am_ans_some, b_60_91, if_pos (n0 (by omega)), b_60_100, if_neg (by decide), b_60_106]
      refine x_num (lo := 1) (hx := 10) rfl rfl (by omega) (by omega) hT p3 (fun er M' he hf => ?_) (fun m M3 hm p4 => ?_)
      · rw [am_ans_some, b_60_113, b_60_133, if_neg (by decide), b_60_140]
        refine hE er M' ?_ hf
        show (if _ then _ else _) = _
        rw [if_neg c11, if_pos c17, hw]
        show (match pN _ _ _ _ _ with | .error e => .error e | .ok m => _ : Except (Nat × Nat) (Nat × Dn)) = _
        rw [he]
      · have m1 := (pN_ok hm).2.2
        rw [am_ans_some, b_60_113, b_60_133, if_pos (n0 (by omega))]
        refine fin (j + 1 + 1 + 1 + 1 + 1) da 0 w m (nI w) M3 p4 ?_ (by omega) (fun z => ⟨w1, rfl⟩) (by omega) (by omega) (by omega)
        show (if _ then _ else _) = _
        rw [if_neg c11, if_pos c17, hw]
        show (match pN _ _ _ _ _ with | .error e => .error e | .ok m => _ : Except (Nat × Nat) (Nat × Dn)) = _
        rw [hm]
  by_cases c18 : kK tp n (j + 1 + 1) = 18
  · have p2 := PC_at p1 (nx (by omega))
    rw [c18, if_neg (by decide), b_60_36, if_pos (by decide), b_60_60, if_pos (by decide), b_60_80, eL _ p2]
    refine x_num (lo := 0) (hx := x.L) rfl rfl (by omega) (by omega) hT p2 (fun er M' he hf => ?_) (fun w M2 hw p3 => ?_)
    · rw [am_ans_some, b_60_91, if_neg (by decide), b_60_98]
      refine hE er M' ?_ hf
      show (if _ then _ else _) = _
      rw [if_neg c11, if_neg c17, if_pos c18, he]
    · have w1 := (pN_ok hw).2.2
      rw [am_ans_some, b_60_91, if_pos (n0 (by omega)), b_60_100, if_pos (by decide), b_60_116, if_pos (by decide), b_60_132, b_60_133, if_pos (by decide)]
      refine fin (j + 1 + 1 + 1 + 1) da 1 w 0 (nI w) M2 p3 ?_ (by omega) (fun z => ⟨w1, rfl⟩) (by omega) (by omega) (by omega)
      show (if _ then _ else _) = _
      rw [if_neg c11, if_neg c17, if_pos c18, hw]
  by_cases c19 : kK tp n (j + 1 + 1) = 19
  · have p2 := PC_at p1 (nx (by omega))
    rw [c19, if_neg (by decide), b_60_36, if_neg (by decide), b_60_42, if_neg (by decide), b_60_48, if_pos (by decide), b_60_60, if_pos (by decide), b_60_80, eL _ p2]
    refine x_num (lo := 0) (hx := x.L) rfl rfl (by omega) (by omega) hT p2 (fun er M' he hf => ?_) (fun w M2 hw p3 => ?_)
    · rw [am_ans_some, b_60_91, if_neg (by decide), b_60_98]
      refine hE er M' ?_ hf
      show (if _ then _ else _) = _
      rw [if_neg c11, if_neg c17, if_neg c18, if_pos c19, he]
    · have w1 := (pN_ok hw).2.2
      rw [am_ans_some, b_60_91, if_pos (n0 (by omega)), b_60_100, if_pos (by decide), b_60_116, if_pos (by decide), b_60_132, b_60_133, if_pos (by decide)]
      refine fin (j + 1 + 1 + 1 + 1) da 2 w 0 (nI w) M2 p3 ?_ (by omega) (fun z => ⟨w1, rfl⟩) (by omega) (by omega) (by omega)
      show (if _ then _ else _) = _
      rw [if_neg c11, if_neg c17, if_neg c18, if_pos c19, hw]
  have k38 := kK_38 tp n (j + 1 + 1)
  rw [if_neg (by rw [li, eq_n (by omega) (by omega)]; exact c17), b_60_36, if_neg (by rw [li, eq_n (by omega) (by omega)]; exact c18), b_60_42, if_neg (by rw [li, eq_n (by omega) (by omega)]; exact c11), b_60_48, if_neg (by rw [li, eq_n (by omega) (by omega)]; exact c19), b_60_54]
  refine x_flt (x := 1) hT p1 (fun M' hf => ?_)
  rw [am_ans_some, b_60_59 rok0]
  refine hE _ M' ?_ hf
  show (if _ then _ else _) = _
  rw [if_neg c11, if_neg c17, if_neg c18, if_neg c19]
end
