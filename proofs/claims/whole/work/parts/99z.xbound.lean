section
/-! A LINE OF TEXT 3, THE PROGRAM -/
abbrev Bd : Type := Nat × (Nat → Nat) × (Nat → Nat)
def addB (t : Bd) (g l : Nat) : Bd := (t.1 + 1, nu t.2.1 t.1 g, nu t.2.2 t.1 l)
def lnB (K V : Nat → Nat) (G L j : Nat) (t : Bd) : Except (Nat × Nat) (Nat × Bd) :=
  bnd (pN K V (j + 1) 0 G) fun g => bnd (pK K (j + 1 + 1) 25) fun _ => bnd (pN K V (j + 1 + 1 + 1) 0 L) fun l => .ok (j + 1 + 1 + 1 + 1, addB t g l)
/-- the lark of a good, after the first m lines -/
def upB (gd lk : Nat → Nat) : Nat → Nat → Nat
  | 0, _ => 0
  | m + 1, g => if gd m = g then lk m + 1 else upB gd lk m g
def RB (x : Cx) (t : Bd) (M : am_M) : Prop := t.1 ≤ 16 ∧ M 196 1 = nI t.1 ∧ (∀ i, i < t.1 → M 197 (5 * i) = nI (t.2.1 i) ∧ M 197 (5 * i + 1) = nI (t.2.2 i)) ∧ (∀ i, i < t.1 → t.2.1 i < x.G ∧ t.2.2 i < x.L)
theorem RB_of {x : Cx} {t : Bd} {M M' : am_M} (h : RB x t M) (e1 : M' 196 = M 196) (e2 : M' 197 = M 197) : RB x t M' := ⟨h.1, by rw [e1]; exact h.2.1, by rw [e2]; exact h.2.2.1, h.2.2.2⟩
theorem RB_add {x : Cx} {t : Bd} {M M' : am_M} {g l : Nat} (h : RB x t M) (hn : t.1 < 16) (g0 : M' 196 1 = nI (t.1 + 1)) (g1 : M' 197 (5 * t.1) = nI g) (g2 : M' 197 (5 * t.1 + 1) = nI l) (gf : ∀ a q, ¬ (a = 196 ∧ q = 1) → ¬ (a = 197 ∧ 5 * t.1 ≤ q) → M' a q = M a q) (h1 : g < x.G) (h2 : l < x.L) : RB x (addB t g l) M' := by
  have ne : ∀ {i}, i < t.1 + 1 → ¬ i = t.1 → i < t.1 := fun h1 h2 => by omega
  refine ⟨by show t.1 + 1 ≤ 16; omega, g0, fun i hi => ?_, fun i hi => ?_⟩
  · show M' 197 (5 * i) = nI (nu t.2.1 t.1 g i) ∧ M' 197 (5 * i + 1) = nI (nu t.2.2 t.1 l i)
    by_cases e : i = t.1
    · rw [e, nu_same, nu_same]; exact ⟨g1, g2⟩
    · have := ne hi e
      rw [nu_ne _ _ e, nu_ne _ _ e, gf _ _ (by omega) (by omega), gf _ _ (by omega) (by omega)]; exact h.2.2.1 i this
  · show nu t.2.1 t.1 g i < x.G ∧ nu t.2.2 t.1 l i < x.L
    by_cases e : i = t.1
    · rw [e, nu_same, nu_same]; exact ⟨h1, h2⟩
    · rw [nu_ne _ _ e, nu_ne _ _ e]; exact h.2.2.2 i (ne hi e)
theorem x_bound {e nS n N j : Nat} {tp : Nat → Nat} {c : CS} {x : Cx} {t : Bd} {M : am_M} {Q : Option Value → am_H → Prop} (hT : TK tp n N M) (p0 : PC tp n N j c M M) (hr : RB x t M) (hn : t.1 < 16) (hk : kK tp n j = 24) (hL : M 18 0 = nI x.L) (hG : M 18 1 = nI x.G) (h6 : x.L ≤ 6) (h8 : x.G ≤ 8) (hE : ∀ er M', lnB (kK tp n) (kV tp n) x.G x.L j t = .error er → FC tp n er M M' → Q (some (.int 0)) (hp nS M')) (hO : ∀ r M', lnB (kK tp n) (kV tp n) x.G x.L j t = .ok r → PC tp n N r.1 c M' M' → RB x r.2 M' → r.2.1 = t.1 + 1 → fT M M' → Q (some (.int 1)) (hp nS M')) : am_Wp (e + 2) 63 0 [.ref 187, .ref 18, .retAddr 0, .retAddr 0] [] (hp nS M) Q := by
  have hte := TE_of hT
  have hj := p0.jn
  have hj1 : j + 1 ≤ N := TE_s hte hj (by omega)
  unfold lnB at hE hO
  have eG : am_up M 187 10 (M 187 10 + 1) 18 1 - 1 = nI x.G - 1 := by rw [up_ne _ _ _ (by decide), hG]
  rw [b_63_0, eG]
  refine x_num (lo := 0) (hx := x.G) rfl rfl (by omega) (by omega) hT (PC_at p0 hj1) (fun er M' he hf => ?_) (fun g M1 hg p1 => ?_)
  · rw [am_ans_some, b_63_21, if_pos (by decide), b_63_35]
    exact hE er M' (bnd_e he _) hf
  have d1 := (pN_ok hg).2.2
  rw [bnd_o hg] at hE hO
  rw [am_ans_some, b_63_21, if_neg (Int32.not_lt.mpr (n0 (by omega))), b_63_26]
  refine x_takes (k := 25) hT p1 (by omega) (fun hne M' hf => ?_) (fun heq M2 p2 => ?_)
  · rw [am_ans_some, b_63_32, if_neg (fun z => z rfl), b_63_35]
    exact hE _ M' (bnd_e (by unfold pK; rw [if_neg hne]) _) hf
  rw [bnd_o (show pK (kK tp n) (j + 1 + 1) 25 = .ok () by unfold pK; rw [if_pos heq])] at hE hO
  have eL : M2 18 0 - 1 = nI x.L - 1 := by rw [p2.f _ _ (by omega), hL]
  rw [am_ans_some, b_63_32, if_pos bn1, b_63_37, eL]
  refine x_numF (lo := 0) (hx := x.L) rfl rfl (by omega) (by omega) hT p2 (fun er M' he hf h196 => ?_) (fun l M6 hl p6 => ?_)
  · rw [am_ans_some, b_63_48]
    refine x_34 (n := t.1) (by rw [h196, p2.f _ _ (by omega)]; exact hr.2.1) hn (fun M7 g0 g1 g2 g3 g4 g5 gf => ?_)
    rw [am_ans_none, b_63_61, if_pos (by decide), b_63_69, b_63_70 rok0]
    exact hE er M7 (bnd_e he _) ⟨by rw [gf _ _ (by omega) (by omega)]; exact hf.k, by rw [gf _ _ (by omega) (by omega)]; exact hf.p, fun a q hq => by rw [gf _ _ (by omega) (by omega)]; exact hf.f a q hq⟩
  · have y1 := (pN_ok hl).2.2
    rw [bnd_o hl] at hO
    rw [am_ans_some, b_63_48]
    refine x_34 (n := t.1) (by rw [p6.f _ _ (by omega)]; exact hr.2.1) hn (fun M7 g0 g1 g2 g3 g4 g5 gf => ?_)
    rw [am_ans_none, b_63_61, if_neg (Int32.not_lt.mpr (n0 (by omega))), b_63_65, b_63_70 rok1]
    have gc : ∀ a q, ¬ (a = 196 ∨ a = 197) → M7 a q = M6 a q := fun a q hq => gf a q (by omega) (by omega)
    have r6 : RB x t M6 := RB_of hr (funext fun k => p6.f _ _ (by omega)) (funext fun k => p6.f _ _ (by omega))
    exact hO _ M7 rfl ⟨by rw [gc _ _ (by omega)]; exact p6.i, p6.jn, by rw [gc _ _ (by omega)]; exact p6.u, fun i hi => by rw [gc _ _ (by omega)]; exact p6.cd i hi, fun _ _ _ => rfl⟩ (RB_add r6 hn g0 g1 g2 gf d1 y1) rfl (fun a q hq => by rw [gc _ _ (by omega)]; exact p6.f a q (by omega))
end
