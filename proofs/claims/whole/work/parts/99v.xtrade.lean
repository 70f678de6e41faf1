section
/-! A LINE OF TEXT 2, THE PROGRAM -/
def bnd {A B : Type} (x : Except (Nat × Nat) A) (f : A → Except (Nat × Nat) B) : Except (Nat × Nat) B := match x with
  | .error e => .error e
  | .ok a => f a
theorem bnd_e {A B : Type} {x : Except (Nat × Nat) A} {e : Nat × Nat} (h : x = .error e) (f : A → Except (Nat × Nat) B) : bnd x f = .error e := by rw [h]; rfl
theorem bnd_o {A B : Type} {x : Except (Nat × Nat) A} {a : A} (h : x = .ok a) (f : A → Except (Nat × Nat) B) : bnd x f = f a := by rw [h]; rfl
def pK (K : Nat → Nat) (j w : Nat) : Except (Nat × Nat) Unit := if K j = w then .ok () else .error (1, j)
def pK2 (K : Nat → Nat) (j v w : Nat) : Except (Nat × Nat) Bool := if K j = v then .ok true else if K j = w then .ok false else .error (1, j)
def addT (t : Tr) (da w : Nat) (b : Bool) (m g : Nat) : Tr := (t.n + 1, nu t.day t.n da, nu t.wo t.n w, fun i => if i = t.n then b else t.bu i, nu t.mn t.n m, nu t.gd t.n g)
def lnT (K V : Nat → Nat) (T G j : Nat) (t : Tr) : Except (Nat × Nat) (Nat × Tr) :=
  bnd (pN K V (j + 1) 0 1000) fun da => bnd (pK K (j + 1 + 1) 20) fun _ => bnd (pN K V (j + 1 + 1 + 1) 0 T) fun w => bnd (pK2 K (j + 1 + 1 + 1 + 1) 21 22) fun b => bnd (pN K V (j + 1 + 1 + 1 + 1 + 1) 1 100) fun m => bnd (pK K (j + 1 + 1 + 1 + 1 + 1 + 1) 23) fun _ => bnd (pN K V (j + 1 + 1 + 1 + 1 + 1 + 1 + 1) 0 G) fun g => .ok (j + 1 + 1 + 1 + 1 + 1 + 1 + 1 + 1, addT t da w b m g)
def RT (x : Cx) (t : Tr) (M : am_M) : Prop := CTr 196 M t ∧ TrOk x t
theorem RT_add {x : Cx} {t : Tr} {M M' : am_M} {da w m g : Nat} {b : Bool} (h : RT x t M) (hn : t.n < 16) (g0 : M' 196 1 = nI (t.n + 1)) (g1 : M' 197 (5 * t.n) = nI da) (g2 : M' 197 (5 * t.n + 1) = nI w) (g3 : M' 197 (5 * t.n + 2) = nI (if b = true then 21 else 22)) (g4 : M' 197 (5 * t.n + 3) = nI m) (g5 : M' 197 (5 * t.n + 4) = nI g) (gf : ∀ a q, ¬ (a = 196 ∧ q = 1) → ¬ (a = 197 ∧ 5 * t.n ≤ q) → M' a q = M a q) (h1 : w < x.T) (h2 : g < x.G) (h3 : 1 ≤ m) (h4 : m ≤ 99) (h5 : da ≤ 999) : RT x (addT t da w b m g) M' := by
  obtain ⟨hc, hk⟩ := h
  have ne : ∀ {i}, i < t.n + 1 → ¬ i = t.n → i < t.n := fun h1 h2 => by omega
  refine ⟨⟨g0, fun i hi => ?_, fun i hi => ?_, fun i hi => ?_, fun i hi => ?_, fun i hi => ?_⟩, ⟨by show t.n + 1 ≤ 16; omega, fun i hi => ?_, fun i hi => ?_, fun i hi => ?_, fun i hi => ?_⟩⟩
  · show M' 197 (5 * i) = nI (nu t.day t.n da i)
    by_cases e : i = t.n
    · rw [e, nu_same]; exact g1
    · rw [nu_ne _ _ e, gf _ _ (by omega) (by have := ne hi e; omega)]; exact hc.day i (ne hi e)
  · show M' 197 (5 * i + 1) = nI (nu t.wo t.n w i)
    by_cases e : i = t.n
    · rw [e, nu_same]; exact g2
    · rw [nu_ne _ _ e, gf _ _ (by omega) (by have := ne hi e; omega)]; exact hc.wo i (ne hi e)
  · show M' 197 (5 * i + 2) = nI (if (if i = t.n then b else t.bu i) = true then 21 else 22)
    by_cases e : i = t.n
    · rw [if_pos e, e]; exact g3
    · rw [if_neg e, gf _ _ (by omega) (by have := ne hi e; omega)]; exact hc.bu i (ne hi e)
  · show M' 197 (5 * i + 3) = nI (nu t.mn t.n m i)
    by_cases e : i = t.n
    · rw [e, nu_same]; exact g4
    · rw [nu_ne _ _ e, gf _ _ (by omega) (by have := ne hi e; omega)]; exact hc.mn i (ne hi e)
  · show M' 197 (5 * i + 4) = nI (nu t.gd t.n g i)
    by_cases e : i = t.n
    · rw [e, nu_same]; exact g5
    · rw [nu_ne _ _ e, gf _ _ (by omega) (by have := ne hi e; omega)]; exact hc.gd i (ne hi e)
  · show nu t.wo t.n w i < x.T
    by_cases e : i = t.n
    · rw [e, nu_same]; exact h1
    · rw [nu_ne _ _ e]; exact hk.wo i (ne hi e)
  · show nu t.gd t.n g i < x.G
    by_cases e : i = t.n
    · rw [e, nu_same]; exact h2
    · rw [nu_ne _ _ e]; exact hk.gd i (ne hi e)
  · show 1 ≤ nu t.mn t.n m i ∧ nu t.mn t.n m i ≤ 99
    by_cases e : i = t.n
    · rw [e, nu_same]; exact ⟨h3, h4⟩
    · rw [nu_ne _ _ e]; exact hk.mn i (ne hi e)
  · show nu t.day t.n da i ≤ 999
    by_cases e : i = t.n
    · rw [e, nu_same]; exact h5
    · rw [nu_ne _ _ e]; exact hk.da i (ne hi e)
theorem x_trade {e nS n N j : Nat} {tp : Nat → Nat} {c : CS} {x : Cx} {t : Tr} {M : am_M} {Q : Option Value → am_H → Prop} (hT : TK tp n N M) (p0 : PC tp n N j c M M) (hr : RT x t M) (hn : t.n < 16) (hk : kK tp n j = 16) (hL : M 18 2 = nI x.T) (hG : M 18 1 = nI x.G) (h6 : x.T ≤ 10) (h8 : x.G ≤ 8) (hE : ∀ er M', lnT (kK tp n) (kV tp n) x.T x.G j t = .error er → FC tp n er M M' → Q (some (.int 0)) (hp nS M')) (hO : ∀ r M', lnT (kK tp n) (kV tp n) x.T x.G j t = .ok r → PC tp n N r.1 c M' M' → RT x r.2 M' → r.2.n = t.n + 1 → fT M M' → Q (some (.int 1)) (hp nS M')) : am_Wp (e + 2) 62 0 [.ref 187, .ref 18, .retAddr 0, .retAddr 0, .retAddr 0, .retAddr 0, .retAddr 0] [] (hp nS M) Q := by
  have hte := TE_of hT
  have hj := p0.jn
  have hj1 : j + 1 ≤ N := TE_s hte hj (by omega)
  unfold lnT at hE hO
  rw [b_62_0]
  refine x_num (lo := 0) (hx := 1000) rfl rfl (by omega) (by omega) hT (PC_at p0 hj1) (fun er M' he hf => ?_) (fun da M1 hda p1 => ?_)
  · rw [am_ans_some, b_62_18, if_pos (by decide), b_62_32]
    exact hE er M' (bnd_e he _) hf
  have d1 := (pN_ok hda).2.2
  rw [bnd_o hda] at hE hO
  rw [am_ans_some, b_62_18, if_neg (Int32.not_lt.mpr (n0 (by omega))), b_62_23]
  refine x_takes (k := 20) hT p1 (by omega) (fun hne M' hf => ?_) (fun heq M2 p2 => ?_)
  · rw [am_ans_some, b_62_29, if_neg (fun z => z rfl), b_62_32]
    exact hE _ M' (bnd_e (by unfold pK; rw [if_neg hne]) _) hf
  rw [bnd_o (show pK (kK tp n) (j + 1 + 1) 20 = .ok () by unfold pK; rw [if_pos heq])] at hE hO
  have eT : M2 18 2 - 1 = nI x.T - 1 := by rw [p2.f _ _ (by omega), hL]
  rw [am_ans_some, b_62_29, if_pos bn1, b_62_34, eT]
  refine x_num (lo := 0) (hx := x.T) rfl rfl (by omega) (by omega) hT p2 (fun er M' he hf => ?_) (fun w M3 hw p3 => ?_)
  · rw [am_ans_some, b_62_45, if_neg (by decide), b_62_50]
    exact hE er M' (bnd_e he _) hf
  have w1 := (pN_ok hw).2.2
  rw [bnd_o hw] at hE hO
  rw [am_ans_some, b_62_45, if_pos (n0 (by omega)), b_62_52, x_kd hT p3, am_ans_some, b_62_56]
  have k38 := kK_38 tp n (j + 1 + 1 + 1 + 1)
  -- from the amount on
  have go : ∀ b : Bool, kK tp n (j + 1 + 1 + 1 + 1) = (if b = true then 21 else 22) → am_Wp (e + 2) 62 78 [.ref 187, .ref 18, .int (nI da), .int (nI w), .int (nI (kK tp n (j + 1 + 1 + 1 + 1))), .retAddr 0, .retAddr 0] [] (hp nS M3) Q := by
    intro b hb
    have hpb : pK2 (kK tp n) (j + 1 + 1 + 1 + 1) 21 22 = .ok b := by
      unfold pK2
      cases b
      · have hb : kK tp n (j + 1 + 1 + 1 + 1) = 22 := hb
        rw [if_neg (by omega), if_pos hb]
      · have hb : kK tp n (j + 1 + 1 + 1 + 1) = 21 := hb
        rw [if_pos hb]
    have h37 : kK tp n (j + 1 + 1 + 1 + 1) ≠ 37 := by cases b <;> (rw [hb]; decide)
    rw [bnd_o hpb] at hE hO
    rw [b_62_78]
    refine x_num (lo := 1) (hx := 100) rfl rfl (by omega) (by omega) hT (PC_at p3 (TE_s hte p3.jn h37)) (fun er M' he hf => ?_) (fun m M4 hm p4 => ?_)
    · rw [am_ans_some, b_62_95, if_pos (by decide), b_62_111]
      exact hE er M' (bnd_e he _) hf
    have m1 := (pN_ok hm).2
    rw [bnd_o hm] at hE hO
    rw [am_ans_some, b_62_95, if_neg (Int32.not_lt.mpr (n0 (by omega))), b_62_102]
    refine x_takes (k := 23) hT p4 (by omega) (fun hne M' hf => ?_) (fun heq M5 p5 => ?_)
    · rw [am_ans_some, b_62_108, if_neg (fun z => z rfl), b_62_111]
      exact hE _ M' (bnd_e (by unfold pK; rw [if_neg hne]) _) hf
    rw [bnd_o (show pK (kK tp n) (j + 1 + 1 + 1 + 1 + 1 + 1) 23 = .ok () by unfold pK; rw [if_pos heq])] at hE hO
    have eG : M5 18 1 - 1 = nI x.G - 1 := by rw [p5.f _ _ (by omega), hG]
    rw [am_ans_some, b_62_108, if_pos bn1, b_62_113, eG]
    refine x_numF (lo := 0) (hx := x.G) rfl rfl (by omega) (by omega) hT p5 (fun er M' he hf h196 => ?_) (fun g M6 hg p6 => ?_)
    · rw [am_ans_some, b_62_124]
      refine x_34 (n := t.n) (by rw [h196, p5.f _ _ (by omega)]; exact hr.1.n) hn (fun M7 g0 g1 g2 g3 g4 g5 gf => ?_)
      rw [am_ans_none, b_62_141, if_pos (by decide), b_62_150, b_62_151 rok0]
      exact hE er M7 (bnd_e he _) ⟨by rw [gf _ _ (by omega) (by omega)]; exact hf.k, by rw [gf _ _ (by omega) (by omega)]; exact hf.p, fun a q hq => by rw [gf _ _ (by omega) (by omega)]; exact hf.f a q hq⟩
    · have y1 := (pN_ok hg).2.2
      rw [bnd_o hg] at hO
      rw [am_ans_some, b_62_124]
      refine x_34 (n := t.n) (by rw [p6.f _ _ (by omega)]; exact hr.1.n) hn (fun M7 g0 g1 g2 g3 g4 g5 gf => ?_)
      rw [am_ans_none, b_62_141, if_neg (Int32.not_lt.mpr (n0 (by omega))), b_62_146, b_62_151 rok1]
      have gc : ∀ a q, ¬ (a = 196 ∨ a = 197) → M7 a q = M6 a q := fun a q hq => gf a q (by omega) (by omega)
      have r6 : RT x t M6 := ⟨CTr_of hr.1 (funext fun k => p6.f _ _ (by omega)) (funext fun k => p6.f _ _ (by omega)), hr.2⟩
      exact hO _ M7 rfl ⟨by rw [gc _ _ (by omega)]; exact p6.i, p6.jn, by rw [gc _ _ (by omega)]; exact p6.u, fun i hi => by rw [gc _ _ (by omega)]; exact p6.cd i hi, fun _ _ _ => rfl⟩ (RT_add r6 hn g0 g1 g2 (by rw [g3, hb]) g4 g5 gf w1 y1 m1.1 (by omega) (by omega)) rfl (fun a q hq => by rw [gc _ _ (by omega)]; exact p6.f a q (by omega))
  by_cases c21 : kK tp n (j + 1 + 1 + 1 + 1) = 21
  · rw [if_pos (by rw [c21]; rfl)]
    exact go true c21
  by_cases c22 : kK tp n (j + 1 + 1 + 1 + 1) = 22
  · rw [if_neg (by rw [li, eq_n (by omega) (by omega)]; exact c21), b_62_65, if_pos (by rw [c22]; rfl)]
    exact go false c22
  rw [if_neg (by rw [li, eq_n (by omega) (by omega)]; exact c21), b_62_65, if_neg (by rw [li, eq_n (by omega) (by omega)]; exact c22), b_62_72]
  refine x_flt (x := 1) hT p3 (fun M' hf => ?_)
  rw [am_ans_some, b_62_77 rok0]
  exact hE _ M' (bnd_e (by unfold pK2; rw [if_neg c21, if_neg c22]) _) hf
end
