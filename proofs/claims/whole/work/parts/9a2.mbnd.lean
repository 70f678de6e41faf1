section
/-! A LINE OF TEXT 3, THE MODEL -/
def UM (t : Bd) (M : am_M) : Prop := ∀ g, g < 8 → M 224 (8 + g) = nI (upB t.2.1 t.2.2 t.1 g)
theorem upB_c {gd lk gd' lk' : Nat → Nat} (g : Nat) : ∀ m, (∀ i, i < m → gd i = gd' i ∧ lk i = lk' i) → upB gd lk m g = upB gd' lk' m g
  | 0, _ => rfl
  | m + 1, h => by rw [upB_s, upB_s, (h m (by omega)).1, (h m (by omega)).2, upB_c g m (fun i hi => h i (by omega))]
theorem upB_a (t : Bd) (g l q : Nat) : upB (addB t g l).2.1 (addB t g l).2.2 (addB t g l).1 q = if g = q then l + 1 else upB t.2.1 t.2.2 t.1 q := by
  show upB (nu t.2.1 t.1 g) (nu t.2.2 t.1 l) (t.1 + 1) q = _
  rw [upB_s, nu_same, nu_same, upB_c (gd' := t.2.1) (lk' := t.2.2) q t.1 (fun i hi => ⟨nu_ne _ _ (by omega), nu_ne _ _ (by omega)⟩)]
theorem m_bnd {d nS n N j : Nat} {tp : Nat → Nat} {c : CS} {x : Cx} {t : Bd} {M : am_M} {Q : Option Value → am_H → Prop} (hT : TT tp n N M) (p0 : PM tp n N j c M M) (hk : kK tp n j = 24) (hL : M 205 8 = nI x.L) (hG : M 205 9 = nI x.G) (h6 : x.L ≤ 6) (h8 : x.G ≤ 8) (hr : UM t M) (hE : ∀ er M', lnB (kK tp n) (kV tp n) x.G x.L j t = .error er → FL tp n er M M' → Q (some (.int (-1))) (hp nS M')) (hS : ∀ r M', lnB (kK tp n) (kV tp n) x.G x.L j t = .ok r → kK tp n r.1 ≠ 26 → FL tp n (1, r.1) M M' → Q (some (.int (-1))) (hp nS M')) (hO : ∀ r M', lnB (kK tp n) (kV tp n) x.G x.L j t = .ok r → kK tp n r.1 = 26 → PM tp n N (r.1 + 1) c M' M' → UM r.2 M' → r.2.1 = t.1 + 1 → eX M M' → Q (some (.int 0)) (hp nS M')) : am_Wp (d + 6) 203 0 [.ref 205, .retAddr 0, .retAddr 0] [] (hp nS M) Q := by
  have e0 : eX M M := fun _ _ _ => rfl
  unfold lnB at hE hS hO
  rw [b_203_0, hG]
  refine m_wnum (w := 24) (lo := 0) (hx := x.G) rfl rfl rfl (by omega) (by omega) (by omega) hT p0 (fun hne => absurd hk hne) (fun _ er M' he hf => ?_) (fun _ g M1 hg p1 => ?_)
  · rw [am_ans_some, b_203_13, if_neg (fun z => z rfl), b_203_19]
    exact hE er _ (bnd_e he _) (FL_x hf e0)
  have d1 := (pN_ok hg).2.2
  rw [bnd_o hg] at hE hS hO
  have p1 : PM tp n N (j + 1 + 1) c M M1 := p1
  have f1 := eX_pm p1 e0
  have eL : M1 205 8 = nI x.L := by rw [f1 _ _ (by unfold sX; omega), hL]
  rw [am_ans_some, b_203_13, if_pos (nm1 (by omega)), b_203_21, eL]
  refine m_wnum (w := 25) (lo := 0) (hx := x.L) rfl rfl rfl (by omega) (by omega) (by omega) hT p1 (fun hne M' hf => ?_) (fun hk25 er M' he hf => ?_) (fun hk25 l M3 hl p3 => ?_)
  · rw [am_ans_some, b_203_34, if_neg (fun z => z rfl), b_203_40]
    exact hE _ _ (bnd_e (by unfold pK; rw [if_neg hne]) _) (FL_x hf e0)
  · rw [am_ans_some, b_203_34, if_neg (fun z => z rfl), b_203_40]
    refine hE er _ ?_ (FL_x hf e0)
    rw [bnd_o (show pK (kK tp n) (j + 1 + 1) 25 = .ok () by unfold pK; rw [if_pos hk25])]
    exact bnd_e he _
  have w1 := (pN_ok hl).2.2
  rw [bnd_o (show pK (kK tp n) (j + 1 + 1) 25 = .ok () by unfold pK; rw [if_pos hk25]), bnd_o hl] at hS hO
  have p3 : PM tp n N (j + 1 + 1 + 1 + 1) c M M3 := p3
  have a8 : (8 : Int32) + nI g = nI (8 + g) := adl 8 g
  rw [am_ans_some, b_203_34, if_pos (nm1 (by omega)), b_203_42 (by rw [a8]; exact in_n (by omega) (by omega)), a8, cl_n (by omega), nI_1]
  have p9 := PM_u (b := 224) (q := 8 + g) p3 (nI (l + 1)) (by omega)
  have f9 := eX_up (eX_pm p3 e0) (b := 224) (q := 8 + g) (nI (l + 1)) (Or.inr ⟨rfl, by omega⟩)
  have o9 : ∀ q, q < 8 → am_up M3 224 (8 + g) (nI (l + 1)) 224 (8 + q) = nI (upB (addB t g l).2.1 (addB t g l).2.2 (addB t g l).1 q) := fun q hq => by
    rw [upB_a]
    by_cases e : g = q
    · rw [if_pos e, e, up_same, upd_same]
    · rw [if_neg e, up_pt _ _ (by omega), PM_r p3 (by omega)]; exact hr q hq
  generalize am_up M3 224 (8 + g) (nI (l + 1)) = M9 at p9 f9 o9 ⊢
  refine m_semi (d := d + 1) (TT_x hT f9) p9 (fun hne M' hf => ?_) (fun heq M' pA => ?_)
  · rw [am_ans_some, b_203_60]
    exact hS _ M' rfl hne (FL_x hf f9)
  · rw [am_ans_some, b_203_60]
    exact hO _ M' rfl heq (PM_MM pA) (fun q hq => (PM_r pA (by omega) _).trans (o9 q hq)) rfl (eX_pm pA f9)
end
