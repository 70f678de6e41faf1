section
theorem PM_MM {tp : Nat → Nat} {n N j : Nat} {c : CS} {M0 M : am_M} (h : PM tp n N j c M0 M) : PM tp n N j c M M := ⟨h.a, h.jn, h.u, h.op, h.ar, fun _ _ _ => rfl⟩
/-- the draft of the dawns, in the model -/
def DM (d : Dn) (M : am_M) : Prop := (∀ i, i < d.n → M 222 (64 + 4 * i) = nI (d.day i)) ∧ (∀ i, i < d.n → M 222 (64 + 4 * i + 1) = nI (d.kd i)) ∧ (∀ i, i < d.n → M 222 (64 + 4 * i + 2) = nI (d.wo i)) ∧ (∀ i, i < d.n → M 222 (64 + 4 * i + 3) = nI (d.mn i))
theorem DM_add {d : Dn} {M M' : am_M} {da k w m : Nat} (h : DM d M) (gf : ∀ q, q < 64 + 4 * d.n → M' 222 q = M 222 q) (g0 : M' 222 (64 + 4 * d.n) = nI da) (g1 : M' 222 (64 + 4 * d.n + 1) = nI k) (g2 : M' 222 (64 + 4 * d.n + 2) = nI w) (g3 : M' 222 (64 + 4 * d.n + 3) = nI m) : DM (addD d da k w m) M' := by
  have ne : ∀ {i}, i < d.n + 1 → ¬ i = d.n → i < d.n := fun h1 h2 => by omega
  refine ⟨fun i hi => ?_, fun i hi => ?_, fun i hi => ?_, fun i hi => ?_⟩
  · show M' 222 (64 + 4 * i) = nI (nu d.day d.n da i)
    by_cases e : i = d.n
    · rw [e, nu_same]; exact g0
    · have := ne hi e
      rw [nu_ne _ _ e, gf _ (by omega)]; exact h.1 i this
  · show M' 222 (64 + 4 * i + 1) = nI (nu d.kd d.n k i)
    by_cases e : i = d.n
    · rw [e, nu_same]; exact g1
    · have := ne hi e
      rw [nu_ne _ _ e, gf _ (by omega)]; exact h.2.1 i this
  · show M' 222 (64 + 4 * i + 2) = nI (nu d.wo d.n w i)
    by_cases e : i = d.n
    · rw [e, nu_same]; exact g2
    · have := ne hi e
      rw [nu_ne _ _ e, gf _ (by omega)]; exact h.2.2.1 i this
  · show M' 222 (64 + 4 * i + 3) = nI (nu d.mn d.n m i)
    by_cases e : i = d.n
    · rw [e, nu_same]; exact g3
    · have := ne hi e
      rw [nu_ne _ _ e, gf _ (by omega)]; exact h.2.2.2 i this
theorem nm1 {v : Nat} (h : v < 2147483648) : ¬ nI v = -1 := fun z => by
  have h0 : nI v < 0 := by rw [z]; decide
  rw [li, lt_n h (by omega)] at h0
  omega
theorem m_dawn {d nS n N j : Nat} {tp : Nat → Nat} {c : CS} {x : Cx} {dn : Dn} {M : am_M} {Q : Option Value → am_H → Prop} (hT : TT tp n N M) (p0 : PM tp n N j c M M) (hk : kK tp n j = 16) (hn : dn.n < 16) (hL : M 205 8 = nI x.L) (h6 : x.L ≤ 6) (hr : DM dn M) (hE : ∀ er M', lnD (kK tp n) (kV tp n) x.L j dn = .error er → FL tp n er M M' → Q (some (.int (-1))) (hp nS M')) (hS : ∀ r M', lnD (kK tp n) (kV tp n) x.L j dn = .ok r → kK tp n r.1 ≠ 26 → FL tp n (1, r.1) M M' → Q (some (.int (-1))) (hp nS M')) (hO : ∀ r M', lnD (kK tp n) (kV tp n) x.L j dn = .ok r → kK tp n r.1 = 26 → PM tp n N (r.1 + 1) c M' M' → DM r.2 M' → r.2.n = dn.n + 1 → eX M M' → Q (some (.int 0)) (hp nS M')) : am_Wp (d + 6) 194 0 [.ref 205, .int (nI (64 + 4 * dn.n)), .retAddr 0] [] (hp nS M) Q := by
  obtain ⟨b0, hb0⟩ : ∃ b0, b0 = 64 + 4 * dn.n := ⟨_, rfl⟩
  have hb64 : 64 ≤ b0 := by omega
  have hb128 : b0 + 3 < 128 := by omega
  have a1 : nI b0 + 1 = nI (b0 + 1) := nI_1 _
  have a2 : nI b0 + 2 = nI (b0 + 2) := nI_add _ 2
  have a3 : nI b0 + 3 = nI (b0 + 3) := nI_add _ 3
  have v0 : vp_in (nI b0) 128 := in_n (by omega) (by omega)
  have v1 : vp_in (nI (b0 + 1)) 128 := in_n (by omega) (by omega)
  have v2 : vp_in (nI (b0 + 2)) 128 := in_n (by omega) (by omega)
  have v3 : vp_in (nI (b0 + 3)) 128 := in_n (by omega) (by omega)
  have k0 : (nI b0).toNatClampNeg = b0 := cl_n (by omega)
  have k1 : (nI (b0 + 1)).toNatClampNeg = b0 + 1 := cl_n (by omega)
  have k2 : (nI (b0 + 2)).toNatClampNeg = b0 + 2 := cl_n (by omega)
  have k3 : (nI (b0 + 3)).toNatClampNeg = b0 + 3 := cl_n (by omega)
  have e0 : eX M M := fun _ _ _ => rfl
  -- the end of the line
  have fin : ∀ (jj da k w m : Nat) (A : am_M), PM tp n N jj c A A → eX M A → (∀ q, q < b0 → A 222 q = M 222 q) → A 222 b0 = nI da → A 222 (b0 + 1) = nI k → A 222 (b0 + 2) = nI w → m ≤ 9 → lnD (kK tp n) (kV tp n) x.L j dn = .ok (jj, addD dn da k w m) → am_Wp (d + 6) 194 127 [.ref 205, .int (nI b0), .int (nI k)] [.int (nI m), .int (nI (b0 + 3)), .ref 222] (hp nS A) Q := by
    intro jj da k w m A p f o r0 r1 r2 hm hl
    rw [b_194_127 v3 (by rw [a3]; exact v3), a3, k3, up_same, upd_same, if_pos (nm1 (by omega)), b_194_144]
    have p1 := PM_u (b := 222) (q := b0 + 3) p (nI m) (by omega)
    have f1 := eX_up f (b := 222) (q := b0 + 3) (nI m) (Or.inl ⟨Or.inl rfl, by omega⟩)
    have o1 : ∀ q, q < b0 + 3 → am_up A 222 (b0 + 3) (nI m) 222 q = A 222 q := fun q hq => up_pt _ _ (by omega)
    have o2 : am_up A 222 (b0 + 3) (nI m) 222 (b0 + 3) = nI m := by rw [up_same, upd_same]
    generalize am_up A 222 (b0 + 3) (nI m) = B at p1 f1 o1 o2 ⊢
    refine m_semi (d := d + 1) (TT_x hT f1) p1 (fun hne M' hf => ?_) (fun heq M' p2 => ?_)
    · rw [am_ans_some, b_194_150]
      exact hS _ M' hl hne (FL_x hf f1)
    · rw [am_ans_some, b_194_150]
      have rr := fun q => PM_r (b := 222) p2 (by omega) q
      subst hb0
      exact hO _ M' hl heq (PM_MM p2) (DM_add hr (fun q hq => by rw [rr, o1 _ (by omega)]; exact o q hq) (by rw [rr, o1 _ (by omega)]; exact r0) (by rw [rr, o1 _ (by omega)]; exact r1) (by rw [rr, o1 _ (by omega)]; exact r2) (by rw [rr]; exact o2)) rfl (eX_pm p2 f1)
  rw [← hb0]
  unfold lnD at hE fin
  rw [b_194_0]
  refine m_wnum (w := 16) (lo := 0) (hx := 1000) rfl rfl rfl (by omega) (by omega) (by omega) hT p0 (fun hne => absurd hk hne) (fun _ er M' he hf => ?_) (fun _ da M1 hda p1 => ?_)
  · rw [am_ans_some, b_194_15 v0 v0, k0, up_same, upd_same, if_neg (fun z => z rfl), b_194_26]
    exact hE er _ (by rw [he]) (FL_u (FL_x hf e0) _ (Or.inl ⟨Or.inl rfl, by omega⟩))
  have d1 := (pN_ok hda).2.2
  rw [hda] at hE fin
  have p1 : PM tp n N (j + 1 + 1) c M M1 := p1
  rw [am_ans_some, b_194_15 v0 v0, k0, up_same, upd_same, if_pos (nm1 (by omega)), b_194_28]
  have p2 := PM_u (b := 222) (q := b0) p1 (nI da) (by omega)
  have f2 := eX_up (eX_pm p1 e0) (b := 222) (q := b0) (nI da) (Or.inl ⟨Or.inl rfl, by omega⟩)
  have o2 : ∀ q, q < b0 → am_up M1 222 b0 (nI da) 222 q = M 222 q := fun q hq => by rw [up_pt _ _ (by omega)]; exact PM_r p1 (by omega) q
  have s2 : am_up M1 222 b0 (nI da) 222 b0 = nI da := by rw [up_same, upd_same]
  generalize am_up M1 222 b0 (nI da) = M2 at p2 f2 o2 s2 ⊢
  rw [m_kd p2, am_ans_some, b_194_32]
  have nx : kK tp n (j + 1 + 1) ≠ 37 → j + 1 + 1 + 1 ≤ N := fun z => TE_s hT.e p2.jn z
  -- a kind that there is: from the next token on
  have go : ∀ k : Nat, kdM (kK tp n (j + 1 + 1)) = nI k → kK tp n (j + 1 + 1) ≠ 37 → k ≤ 3 → (∀ M3, PM tp n N (j + 1 + 1 + 1) c M3 M3 → eX M M3 → (∀ q, q < b0 → M3 222 q = M 222 q) → M3 222 b0 = nI da → M3 222 (b0 + 1) = nI k → (if ¬ nI k = 3 then am_Wp (d + 6) 194 79 [.ref 205, .int (nI b0), .int (nI k)] [.int (nI (b0 + 2)), .ref 222] (hp nS M3) Q else am_Wp (d + 6) 194 69 [.ref 205, .int (nI b0), .int (nI k)] [.int (nI (b0 + 2)), .ref 222] (hp nS M3) Q)) → (if ¬ kdM (kK tp n (j + 1 + 1)) = -1 then am_Wp (d + 6) 194 44 [.ref 205, .int (nI b0), .int (kdM (kK tp n (j + 1 + 1)))] [] (hp nS M2) Q else am_Wp (d + 6) 194 38 [.ref 205, .int (nI b0), .int (kdM (kK tp n (j + 1 + 1)))] [] (hp nS M2) Q) := by
    intro k hkk h37 hk3 hh
    rw [hkk, if_pos (nm1 (by omega)), b_194_44]
    refine m_nx (d := d + 2) (TT_x hT f2) p2 (nx h37) (fun M3 p3 => ?_)
    rw [am_ans_none, b_194_48 (by rw [a1]; exact v1), a1, a2, k1]
    have p4 := PM_u (b := 222) (q := b0 + 1) p3 (nI k) (by omega)
    have f4 := eX_up (eX_pm p3 f2) (b := 222) (q := b0 + 1) (nI k) (Or.inl ⟨Or.inl rfl, by omega⟩)
    have rr := fun q => PM_r (b := 222) p3 (by omega) q
    exact hh _ p4 f4 (fun q hq => by rw [up_pt _ _ (by omega), rr]; exact o2 q hq) (by rw [up_pt _ _ (by omega), rr]; exact s2) (by rw [up_same, upd_same])
  -- the number after it is there
  have mid : ∀ (k w : Nat) (M4 M3 : am_M), PM tp n N (j + 1 + 1 + 1 + 1) c M3 M4 → eX M M3 → (∀ q, q < b0 → M3 222 q = M 222 q) → M3 222 b0 = nI da → M3 222 (b0 + 1) = nI k → w ≤ 9 → (∀ A, PM tp n N (j + 1 + 1 + 1 + 1) c A A → eX M A → (∀ q, q < b0 → A 222 q = M 222 q) → A 222 b0 = nI da → A 222 (b0 + 1) = nI k → A 222 (b0 + 2) = nI w → (if ¬ nI k = 0 then am_Wp (d + 6) 194 126 [.ref 205, .int (nI b0), .int (nI k)] [.int (nI (b0 + 3)), .ref 222] (hp nS A) Q else am_Wp (d + 6) 194 116 [.ref 205, .int (nI b0), .int (nI k)] [.int (nI (b0 + 3)), .ref 222] (hp nS A) Q)) → am_Wp (d + 6) 194 90 [.ref 205, .int (nI b0), .int (nI k)] [.int (nI w), .int (nI (b0 + 2)), .ref 222] (hp nS M4) Q := by
    intro k w M4 M3 p f o r0 r1 hw hh
    rw [b_194_90 v2 (by rw [a2]; exact v2), a2, k2, up_same, upd_same, if_pos (nm1 (by omega)), b_194_105, a3]
    have p4 := PM_u (b := 222) (q := b0 + 2) p (nI w) (by omega)
    have f4 := eX_up (eX_pm p f) (b := 222) (q := b0 + 2) (nI w) (Or.inl ⟨Or.inl rfl, by omega⟩)
    have rr := fun q => PM_r (b := 222) p (by omega) q
    exact hh _ p4 f4 (fun q hq => by rw [up_pt _ _ (by omega), rr]; exact o q hq) (by rw [up_pt _ _ (by omega), rr]; exact r0) (by rw [up_pt _ _ (by omega), rr]; exact r1) (by rw [up_same, upd_same])
  have bad : ∀ (er : Nat × Nat) (k : Nat) (M' M3 : am_M), FM tp n er M3 M' → eX M M3 → (∀ M'', FL tp n er M M'' → Q (some (.int (-1))) (hp nS M'')) → am_Wp (d + 6) 194 90 [.ref 205, .int (nI b0), .int (nI k)] [.int (-1), .int (nI (b0 + 2)), .ref 222] (hp nS M') Q := by
    intro er k M' M3 hf f hh
    rw [b_194_90 v2 (by rw [a2]; exact v2), a2, k2, up_same, upd_same, if_neg (fun z => z rfl), b_194_103]
    exact hh _ (FL_u (FL_x hf f) _ (Or.inl ⟨Or.inl rfl, by omega⟩))
  have eLL : ∀ A, eX M A → A 205 8 - 1 = nI x.L - 1 := fun A f => by rw [f _ _ (by unfold sX; omega), hL]
  by_cases c11 : kK tp n (j + 1 + 1) = 11
  · refine go 3 (by rw [c11]; rfl) (by omega) (by omega) (fun M3 p3 f3 o3 r0 r1 => ?_)
    rw [if_neg (fun z => z rfl), b_194_69]
    refine m_num (d := d + 1) (lo := 0) (hx := 10) rfl rfl (by omega) (by omega) (TT_x hT f3) p3 (fun er M' he hf => ?_) (fun w M4 hw p4 => ?_)
    · rw [am_ans_some, b_194_76]
      refine bad er 3 M' M3 hf f3 (fun M'' hl => hE er M'' ?_ hl)
      show (if _ then _ else _) = _
      rw [if_pos c11, he]
    · have w1 := (pN_ok hw).2.2
      rw [am_ans_some, b_194_76]
      refine mid 3 w M4 M3 p4 f3 o3 r0 r1 (by omega) (fun A pA fA oA q0 q1 q2 => ?_)
      rw [if_pos (by decide), b_194_126]
      refine fin (j + 1 + 1 + 1 + 1) da 3 w 0 A pA fA oA q0 q1 q2 (by omega) ?_
      show (if _ then _ else _) = _
      rw [if_pos c11, hw]
  by_cases c17 : kK tp n (j + 1 + 1) = 17
  · refine go 0 (by rw [c17]; rfl) (by omega) (by omega) (fun M3 p3 f3 o3 r0 r1 => ?_)
    rw [if_pos (by decide), b_194_79, eLL _ f3]
    refine m_num (d := d + 1) (lo := 0) (hx := x.L) rfl rfl (by omega) (by omega) (TT_x hT f3) p3 (fun er M' he hf => ?_) (fun w M4 hw p4 => ?_)
    · rw [am_ans_some]
      refine bad er 0 M' M3 hf f3 (fun M'' hl => hE er M'' ?_ hl)
      show (if _ then _ else _) = _
      rw [if_neg c11, if_pos c17, he]
    · have w1 := (pN_ok hw).2.2
      rw [am_ans_some]
      refine mid 0 w M4 M3 p4 f3 o3 r0 r1 (by omega) (fun A pA fA oA q0 q1 q2 => ?_)
      rw [if_neg (fun z => z rfl), b_194_116]
      refine m_num (d := d + 1) (lo := 1) (hx := 10) rfl rfl (by omega) (by omega) (TT_x hT fA) pA (fun er M' he hf => ?_) (fun m M5 hm p5 => ?_)
      · rw [am_ans_some, b_194_123, b_194_127 v3 (by rw [a3]; exact v3), a3, k3, up_same, upd_same, if_neg (fun z => z rfl), b_194_140, b_194_150]
        refine hE er _ ?_ (FL_u (FL_x hf fA) _ (Or.inl ⟨Or.inl rfl, by omega⟩))
        show (if _ then _ else _) = _
        rw [if_neg c11, if_pos c17, hw]
        show (match pN _ _ _ _ _ with | .error e => .error e | .ok m => _ : Except (Nat × Nat) (Nat × Dn)) = _
        rw [he]
      · have m1 := (pN_ok hm).2.2
        have rr := fun q => PM_r (b := 222) p5 (by omega) q
        rw [am_ans_some, b_194_123]
        refine fin (j + 1 + 1 + 1 + 1 + 1) da 0 w m M5 (PM_MM p5) (eX_pm p5 fA) (fun q hq => by rw [rr]; exact oA q hq) (by rw [rr]; exact q0) (by rw [rr]; exact q1) (by rw [rr]; exact q2) (by omega) ?_
        show (if _ then _ else _) = _
        rw [if_neg c11, if_pos c17, hw]
        show (match pN _ _ _ _ _ with | .error e => .error e | .ok m => _ : Except (Nat × Nat) (Nat × Dn)) = _
        rw [hm]
  by_cases c18 : kK tp n (j + 1 + 1) = 18
  · refine go 1 (by rw [c18]; rfl) (by omega) (by omega) (fun M3 p3 f3 o3 r0 r1 => ?_)
    rw [if_pos (by decide), b_194_79, eLL _ f3]
    refine m_num (d := d + 1) (lo := 0) (hx := x.L) rfl rfl (by omega) (by omega) (TT_x hT f3) p3 (fun er M' he hf => ?_) (fun w M4 hw p4 => ?_)
    · rw [am_ans_some]
      refine bad er 1 M' M3 hf f3 (fun M'' hl => hE er M'' ?_ hl)
      show (if _ then _ else _) = _
      rw [if_neg c11, if_neg c17, if_pos c18, he]
    · have w1 := (pN_ok hw).2.2
      rw [am_ans_some]
      refine mid 1 w M4 M3 p4 f3 o3 r0 r1 (by omega) (fun A pA fA oA q0 q1 q2 => ?_)
      rw [if_pos (by decide), b_194_126]
      refine fin (j + 1 + 1 + 1 + 1) da 1 w 0 A pA fA oA q0 q1 q2 (by omega) ?_
      show (if _ then _ else _) = _
      rw [if_neg c11, if_neg c17, if_pos c18, hw]
  by_cases c19 : kK tp n (j + 1 + 1) = 19
  · refine go 2 (by rw [c19]; rfl) (by omega) (by omega) (fun M3 p3 f3 o3 r0 r1 => ?_)
    rw [if_pos (by decide), b_194_79, eLL _ f3]
    refine m_num (d := d + 1) (lo := 0) (hx := x.L) rfl rfl (by omega) (by omega) (TT_x hT f3) p3 (fun er M' he hf => ?_) (fun w M4 hw p4 => ?_)
    · rw [am_ans_some]
      refine bad er 2 M' M3 hf f3 (fun M'' hl => hE er M'' ?_ hl)
      show (if _ then _ else _) = _
      rw [if_neg c11, if_neg c17, if_neg c18, if_pos c19, he]
    · have w1 := (pN_ok hw).2.2
      rw [am_ans_some]
      refine mid 2 w M4 M3 p4 f3 o3 r0 r1 (by omega) (fun A pA fA oA q0 q1 q2 => ?_)
      rw [if_pos (by decide), b_194_126]
      refine fin (j + 1 + 1 + 1 + 1) da 2 w 0 A pA fA oA q0 q1 q2 (by omega) ?_
      show (if _ then _ else _) = _
      rw [if_neg c11, if_neg c17, if_neg c18, if_pos c19, hw]
  have hm : kdM (kK tp n (j + 1 + 1)) = -1 := by unfold kdM; rw [if_neg c11, if_neg c17, if_neg c18, if_neg c19]
  rw [hm, if_neg (fun z => z rfl), b_194_38]
  refine m_err (x := 1) p2 (fun M' hf => ?_)
  rw [am_ans_some, b_194_43]
  refine hE _ M' ?_ (FL_x hf f2)
  show (if _ then _ else _) = _
  rw [if_neg c11, if_neg c17, if_neg c18, if_neg c19]
end
