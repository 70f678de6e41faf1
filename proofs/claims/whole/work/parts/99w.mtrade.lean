section
/-! A LINE OF TEXT 2, THE MODEL -/
def sgnT (b : Bool) (m : Nat) : Int32 := if b = true then nI m else -nI m
def RM (t : Tr) (M : am_M) : Prop := (∀ i, i < t.n → M 223 (64 + 4 * i) = nI (t.day i)) ∧ (∀ i, i < t.n → M 223 (64 + 4 * i + 1) = nI (t.wo i)) ∧ (∀ i, i < t.n → M 223 (64 + 4 * i + 2) = sgnT (t.bu i) (t.mn i)) ∧ (∀ i, i < t.n → M 223 (64 + 4 * i + 3) = nI (t.gd i))
theorem RM_add {t : Tr} {M M' : am_M} {da w m g : Nat} {b : Bool} (h : RM t M) (gf : ∀ q, q < 64 + 4 * t.n → M' 223 q = M 223 q) (g0 : M' 223 (64 + 4 * t.n) = nI da) (g1 : M' 223 (64 + 4 * t.n + 1) = nI w) (g2 : M' 223 (64 + 4 * t.n + 2) = sgnT b m) (g3 : M' 223 (64 + 4 * t.n + 3) = nI g) : RM (addT t da w b m g) M' := by
  have ne : ∀ {i}, i < t.n + 1 → ¬ i = t.n → i < t.n := fun h1 h2 => by omega
  refine ⟨fun i hi => ?_, fun i hi => ?_, fun i hi => ?_, fun i hi => ?_⟩
  · show M' 223 (64 + 4 * i) = nI (nu t.day t.n da i)
    by_cases e : i = t.n
    · rw [e, nu_same]; exact g0
    · have := ne hi e
      rw [nu_ne _ _ e, gf _ (by omega)]; exact h.1 i this
  · show M' 223 (64 + 4 * i + 1) = nI (nu t.wo t.n w i)
    by_cases e : i = t.n
    · rw [e, nu_same]; exact g1
    · have := ne hi e
      rw [nu_ne _ _ e, gf _ (by omega)]; exact h.2.1 i this
  · show M' 223 (64 + 4 * i + 2) = sgnT (if i = t.n then b else t.bu i) (nu t.mn t.n m i)
    by_cases e : i = t.n
    · rw [if_pos e, e, nu_same]; exact g2
    · have := ne hi e
      rw [if_neg e, nu_ne _ _ e, gf _ (by omega)]; exact h.2.2.1 i this
  · show M' 223 (64 + 4 * i + 3) = nI (nu t.gd t.n g i)
    by_cases e : i = t.n
    · rw [e, nu_same]; exact g3
    · have := ne hi e
      rw [nu_ne _ _ e, gf _ (by omega)]; exact h.2.2.2 i this
theorem m_trd {d nS n N j : Nat} {tp : Nat → Nat} {c : CS} {x : Cx} {t : Tr} {M : am_M} {Q : Option Value → am_H → Prop} (hT : TT tp n N M) (p0 : PM tp n N j c M M) (hk : kK tp n j = 16) (hn : t.n < 16) (hL : M 205 10 = nI x.T) (hG : M 205 9 = nI x.G) (h6 : x.T ≤ 10) (h8 : x.G ≤ 8) (hr : RM t M) (hE : ∀ er M', lnT (kK tp n) (kV tp n) x.T x.G j t = .error er → FL tp n er M M' → Q (some (.int (-1))) (hp nS M')) (hS : ∀ r M', lnT (kK tp n) (kV tp n) x.T x.G j t = .ok r → kK tp n r.1 ≠ 26 → FL tp n (1, r.1) M M' → Q (some (.int (-1))) (hp nS M')) (hO : ∀ r M', lnT (kK tp n) (kV tp n) x.T x.G j t = .ok r → kK tp n r.1 = 26 → PM tp n N (r.1 + 1) c M' M' → RM r.2 M' → r.2.n = t.n + 1 → eX M M' → Q (some (.int 0)) (hp nS M')) : am_Wp (d + 6) 201 0 [.ref 205, .int (nI (64 + 4 * t.n)), .retAddr 0, .retAddr 0] [] (hp nS M) Q := by
  obtain ⟨b0, hb0⟩ : ∃ b0, b0 = 64 + 4 * t.n := ⟨_, rfl⟩
  have hb64 : 64 ≤ b0 := by omega
  have hb128 : b0 + 3 < 128 := by omega
  have a1 : nI b0 + 1 = nI (b0 + 1) := nI_1 _
  have a2 : nI b0 + 2 = nI (b0 + 2) := nI_add _ 2
  have a3 : nI b0 + 3 = nI (b0 + 3) := nI_add _ 3
  have v0 : vp_in (nI b0) 128 := in_n (by omega) (by omega)
  have v1 : vp_in (nI (b0 + 1)) 128 := in_n (by omega) (by omega)
  have v2 : vp_in (nI (b0 + 2)) 128 := in_n (by omega) (by omega)
  have v3 : vp_in (nI (b0 + 3)) 128 := in_n (by omega) (by omega)
  have k0 : (nI b0).toNatClampNeg = b0 := cl_n (by omega)
  have k1 : (nI (b0 + 1)).toNatClampNeg = b0 + 1 := cl_n (by omega)
  have k2 : (nI (b0 + 2)).toNatClampNeg = b0 + 2 := cl_n (by omega)
  have k3 : (nI (b0 + 3)).toNatClampNeg = b0 + 3 := cl_n (by omega)
  have e0 : eX M M := fun _ _ _ => rfl
  have ok : ∀ q, 64 ≤ q → ((223 = 222 ∨ 223 = 223) ∧ 64 ≤ q) ∨ (223 = 224 ∧ 8 ≤ q) := fun q hq => Or.inl ⟨Or.inr rfl, hq⟩
  rw [← hb0]
  unfold lnT at hE hS hO
  rw [b_201_0]
  refine m_wnum (w := 16) (lo := 0) (hx := 1000) rfl rfl rfl (by omega) (by omega) (by omega) hT p0 (fun hne => absurd hk hne) (fun _ er M' he hf => ?_) (fun _ da M1 hda p1 => ?_)
  · rw [am_ans_some, b_201_15 v0 v0, k0, up_same, upd_same, if_neg (fun z => z rfl), b_201_26]
    exact hE er _ (bnd_e he _) (FL_u (FL_x hf e0) _ (ok _ (by omega)))
  have d1 := (pN_ok hda).2.2
  rw [bnd_o hda] at hE hS hO
  have p1 : PM tp n N (j + 1 + 1) c M M1 := p1
  rw [am_ans_some, b_201_15 v0 v0, k0, up_same, upd_same, if_pos (nm1 (by omega)), b_201_28, a1]
  have p2 := PM_u (b := 223) (q := b0) p1 (nI da) (by omega)
  have f2 := eX_up (eX_pm p1 e0) (b := 223) (q := b0) (nI da) (ok _ (by omega))
  have o2 : ∀ q, q < b0 → am_up M1 223 b0 (nI da) 223 q = M 223 q := fun q hq => by rw [up_pt _ _ (by omega)]; exact PM_r p1 (by omega) q
  have s2 : am_up M1 223 b0 (nI da) 223 b0 = nI da := by rw [up_same, upd_same]
  generalize am_up M1 223 b0 (nI da) = M2 at p2 f2 o2 s2 ⊢
  have eT : M2 205 10 - 1 = nI x.T - 1 := by rw [f2 _ _ (by unfold sX; omega), hL]
  rw [eT]
  refine m_wnum (w := 20) (lo := 0) (hx := x.T) rfl rfl rfl (by omega) (by omega) (by omega) (TT_x hT f2) p2 (fun hne M' hf => ?_) (fun hk20 er M' he hf => ?_) (fun hk20 w M3 hw p3 => ?_)
  · rw [am_ans_some, b_201_48 v1 (by rw [a1]; exact v1), a1, k1, up_same, upd_same, if_neg (fun z => z rfl), b_201_61]
    exact hE _ _ (bnd_e (by unfold pK; rw [if_neg hne]) _) (FL_u (FL_x hf f2) _ (ok _ (by omega)))
  · rw [am_ans_some, b_201_48 v1 (by rw [a1]; exact v1), a1, k1, up_same, upd_same, if_neg (fun z => z rfl), b_201_61]
    refine hE er _ ?_ (FL_u (FL_x hf f2) _ (ok _ (by omega)))
    rw [bnd_o (show pK (kK tp n) (j + 1 + 1) 20 = .ok () by unfold pK; rw [if_pos hk20])]
    exact bnd_e he _
  have w1 := (pN_ok hw).2.2
  rw [bnd_o (show pK (kK tp n) (j + 1 + 1) 20 = .ok () by unfold pK; rw [if_pos hk20]), bnd_o hw] at hE hS hO
  have p3 : PM tp n N (j + 1 + 1 + 1 + 1) c M2 M3 := p3
  rw [am_ans_some, b_201_48 v1 (by rw [a1]; exact v1), a1, k1, up_same, upd_same, if_pos (nm1 (by omega)), b_201_63]
  have p4 := PM_u (b := 223) (q := b0 + 1) p3 (nI w) (by omega)
  have f4 := eX_up (eX_pm p3 f2) (b := 223) (q := b0 + 1) (nI w) (ok _ (by omega))
  have o4 : ∀ q, q < b0 + 1 → am_up M3 223 (b0 + 1) (nI w) 223 q = M2 223 q := fun q hq => by rw [up_pt _ _ (by omega)]; exact PM_r p3 (by omega) q
  have s4 : am_up M3 223 (b0 + 1) (nI w) 223 (b0 + 1) = nI w := by rw [up_same, upd_same]
  generalize am_up M3 223 (b0 + 1) (nI w) = M4 at p4 f4 o4 s4 ⊢
  have go : ∀ b : Bool, pK2 (kK tp n) (j + 1 + 1 + 1 + 1) 21 22 = .ok b → kK tp n (j + 1 + 1 + 1 + 1) ≠ 37 → am_Wp (d + 6) 201 89 [.ref 205, .int (nI b0), .int (bI b), .retAddr 0] [] (hp nS M4) Q := by
    intro b hpb h37
    rw [bnd_o hpb] at hE hS hO
    rw [b_201_89]
    refine m_nx (d := d + 2) (TT_x hT f4) p4 (TE_s hT.e p4.jn h37) (fun M5 p5 => ?_)
    rw [am_ans_none, b_201_93]
    refine m_num (d := d + 1) (lo := 1) (hx := 100) rfl rfl (by omega) (by omega) (TT_x hT f4) p5 (fun er M' he hf => ?_) (fun m M6 hm p6 => ?_)
    · rw [am_ans_some, b_201_100, if_neg (fun z => z rfl), b_201_106]
      exact hE er _ (bnd_e he _) (FL_x hf f4)
    have m1 := (pN_ok hm).2
    rw [bnd_o hm] at hE hS hO
    have sgn : am_Wp (d + 6) 201 125 [.ref 205, .int (nI b0), .int (bI b), .int (nI m)] [.int (sgnT b m), .int (nI (b0 + 2)), .ref 223] (hp nS M6) Q → am_Wp (d + 6) 201 108 [.ref 205, .int (nI b0), .int (bI b), .int (nI m)] [] (hp nS M6) Q := by
      intro hh
      rw [b_201_108, a2]
      cases b
      · rw [if_pos (show bI false = 0 from rfl), b_201_123]; exact hh
      · rw [if_neg (show ¬ bI true = 0 by decide), b_201_119]; exact hh
    rw [am_ans_some, b_201_100, if_pos (nm1 (by omega))]
    refine sgn ?_
    rw [b_201_125 v2, k2, a3]
    have p7 := PM_u (b := 223) (q := b0 + 2) p6 (sgnT b m) (by omega)
    have f7 := eX_up (eX_pm p6 f4) (b := 223) (q := b0 + 2) (sgnT b m) (ok _ (by omega))
    have o7 : ∀ q, q < b0 + 2 → am_up M6 223 (b0 + 2) (sgnT b m) 223 q = M4 223 q := fun q hq => by rw [up_pt _ _ (by omega)]; exact PM_r p6 (by omega) q
    have s7 : am_up M6 223 (b0 + 2) (sgnT b m) 223 (b0 + 2) = sgnT b m := by rw [up_same, upd_same]
    generalize am_up M6 223 (b0 + 2) (sgnT b m) = M7 at p7 f7 o7 s7 ⊢
    have eG : M7 205 9 - 1 = nI x.G - 1 := by rw [f7 _ _ (by unfold sX; omega), hG]
    rw [eG]
    have stop : ∀ (er : Nat × Nat) (M' : am_M), FM tp n er M7 M' → (∀ M'', FL tp n er M M'' → Q (some (.int (-1))) (hp nS M'')) → am_Wp (d + 6) 201 146 [.ref 205, .int (nI b0), .int (bI b), .int (nI m)] [.int (-1), .int (nI (b0 + 3)), .ref 223] (hp nS M') Q := by
      intro er M' hf hh
      rw [b_201_146 v3 (by rw [a3]; exact v3), a3, k3, up_same, upd_same, if_neg (fun z => z rfl), b_201_159, b_201_169]
      exact hh _ (FL_u (FL_x hf f7) _ (ok _ (by omega)))
    refine m_wnum (w := 23) (lo := 0) (hx := x.G) rfl rfl rfl (by omega) (by omega) (by omega) (TT_x hT f7) p7 (fun hne M' hf => ?_) (fun hk23 er M' he hf => ?_) (fun hk23 g M8 hg p8 => ?_)
    · rw [am_ans_some]
      exact stop _ M' hf (fun M'' hl => hE _ M'' (bnd_e (by unfold pK; rw [if_neg hne]) _) hl)
    · rw [am_ans_some]
      refine stop er M' hf (fun M'' hl => hE er M'' ?_ hl)
      rw [bnd_o (show pK (kK tp n) (j + 1 + 1 + 1 + 1 + 1 + 1) 23 = .ok () by unfold pK; rw [if_pos hk23])]
      exact bnd_e he _
    have y1 := (pN_ok hg).2.2
    rw [bnd_o (show pK (kK tp n) (j + 1 + 1 + 1 + 1 + 1 + 1) 23 = .ok () by unfold pK; rw [if_pos hk23]), bnd_o hg] at hS hO
    have p8 : PM tp n N (j + 1 + 1 + 1 + 1 + 1 + 1 + 1 + 1) c M7 M8 := p8
    rw [am_ans_some, b_201_146 v3 (by rw [a3]; exact v3), a3, k3, up_same, upd_same, if_pos (nm1 (by omega)), b_201_163]
    have p9 := PM_u (b := 223) (q := b0 + 3) p8 (nI g) (by omega)
    have f9 := eX_up (eX_pm p8 f7) (b := 223) (q := b0 + 3) (nI g) (ok _ (by omega))
    have o9 : ∀ q, q < b0 + 3 → am_up M8 223 (b0 + 3) (nI g) 223 q = M7 223 q := fun q hq => by rw [up_pt _ _ (by omega)]; exact PM_r p8 (by omega) q
    have s9 : am_up M8 223 (b0 + 3) (nI g) 223 (b0 + 3) = nI g := by rw [up_same, upd_same]
    generalize am_up M8 223 (b0 + 3) (nI g) = M9 at p9 f9 o9 s9 ⊢
    refine m_semi (d := d + 1) (TT_x hT f9) p9 (fun hne M' hf => ?_) (fun heq M' pA => ?_)
    · rw [am_ans_some, b_201_169]
      exact hS _ M' rfl hne (FL_x hf f9)
    · rw [am_ans_some, b_201_169]
      have rr := fun q => PM_r (b := 223) pA (by omega) q
      subst hb0
      exact hO _ M' rfl heq (PM_MM pA) (RM_add hr (fun q hq => by rw [rr, o9 _ (by omega), o7 _ (by omega), o4 _ (by omega)]; exact o2 q hq) (by rw [rr, o9 _ (by omega), o7 _ (by omega), o4 _ (by omega)]; exact s2) (by rw [rr, o9 _ (by omega), o7 _ (by omega)]; exact s4) (by rw [rr, o9 _ (by omega)]; exact s7) (by rw [rr]; exact s9)) rfl (eX_pm pA f9)
  have wh1 : ∀ {Q : Option Value → am_H → Prop}, am_Wp (d + 5) 192 0 [.ref 205, .int 21] [] (hp nS M4) Q = Q (some (.int (bI (decide (kK tp n (j + 1 + 1 + 1 + 1) = 21))))) (hp nS M4) := fun {Q} => m_isW (w := 21) p4 (by decide)
  have wh2 : ∀ {Q : Option Value → am_H → Prop}, am_Wp (d + 5) 192 0 [.ref 205, .int 22] [] (hp nS M4) Q = Q (some (.int (bI (decide (kK tp n (j + 1 + 1 + 1 + 1) = 22))))) (hp nS M4) := fun {Q} => m_isW (w := 22) p4 (by decide)
  rw [wh1, am_ans_some, b_201_69]
  by_cases c21 : kK tp n (j + 1 + 1 + 1 + 1) = 21
  · rw [ifn_t c21, decide_eq_true c21]
    exact go true (by unfold pK2; rw [if_pos c21]) (by omega)
  rw [ifn_f c21, decide_eq_false c21, b_201_74, wh2, am_ans_some, b_201_80]
  by_cases c22 : kK tp n (j + 1 + 1 + 1 + 1) = 22
  · rw [ifn_t c22]
    exact go false (by unfold pK2; rw [if_neg c21, if_pos c22]) (by omega)
  rw [ifn_f c22, b_201_83]
  refine m_err (x := 1) p4 (fun M' hf => ?_)
  rw [am_ans_some, b_201_88]
  exact hE _ M' (bnd_e (by unfold pK2; rw [if_neg c21, if_neg c22]) _) (FL_x hf f4)
end
