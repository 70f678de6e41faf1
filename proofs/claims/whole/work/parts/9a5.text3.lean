section
/-! TEXT 3, BOTH -/
def b0 : Bd := (0, fun _ => 0, fun _ => 0)
noncomputable def gB (s : St) : Except (Nat × Nat) Bd := gL (kK s.tp s.len) 24 Prod.fst (lnB (kK s.tp s.len) (kV s.tp s.len) s.t.x.G s.t.x.L) 17 0 b0
def BdOk (x : Cx) (b : Bd) : Prop := b.1 ≤ 16 ∧ (∀ i, i < b.1 → b.2.1 i < x.G ∧ b.2.2 i < x.L)
theorem x_t3 {d nS c : Nat} {Mi : am_M} {s : St} {M : am_M} {Q : Option Value → am_H → Prop} (hR : RO Mi) (hC : CI Mi M s) (hG : GI c s) (hE : ∀ N e M', TE (kK s.tp s.len) (kV s.tp s.len) N → gB s = .error e → CI Mi M' (sR s 0 s.tp (nI e.1) (nI (ps s.tp s.len e.2))) → Fc M M' → Q (some (.int (-1))) (hp nS M')) (hO : ∀ N (dn : Bd) M', TE (kK s.tp s.len) (kV s.tp s.len) N → gB s = .ok dn → BdOk s.t.x dn → CI Mi M' (sT0 (sR s 0 s.tp 0 (-1)) (tB s.t dn)) → Fc M M' → Q (some (.int (nI dn.1))) (hp nS M')) : am_Wp (d + 24) 135 0 [.ref 16, .int 3, .retAddr 0] [] (hp nS M) Q := by
  rw [b_135_0]
  refine x_begin (d := d + 14) hR hC hG (fun N M1 tk e0 e10 e1 e2 v0 v1 w1 f1 => ?_)
  have hte := TE_of tk
  rw [if_neg (by decide), b_42_43, if_pos (by decide), b_42_50]
  have z0 : ∀ {P : Nat → Prop}, ∀ k, k < 0 → P k := fun k hk => absurd hk (Nat.not_lt_zero k)
  have p0 : PC s.tp s.len N 0 (cOf (lw0 s.t.l)) M1 M1 := ⟨e10, Nat.zero_le _, v1, z0, fun _ _ _ => rfl⟩
  have r0 : RB s.t.x b0 M1 := ⟨Nat.zero_le _, w1, z0, z0⟩
  have hL0 : ∀ A, fT M1 A → A 18 0 = nI s.t.x.L := fun A f => by rw [f _ _ (by omega), f1 _ _ (by unfold cT; omega)]; exact hC.tw.w.fL
  have hG0 : ∀ A, fT M1 A → A 18 1 = nI s.t.x.G := fun A f => by rw [f _ _ (by omega), f1 _ _ (by unfold cT; omega)]; exact hC.tw.w.fG
  refine x_lines (A := Bd) Prod.fst (lnB (kK s.tp s.len) (kV s.tp s.len) s.t.x.G s.t.x.L) (RB s.t.x) tk (by omega) (w0 := 24) (by omega) (fun k hk => cB_3 hk) (fun a A h => h.1) (fun a A A' h h6 h7 => RB_of h h6 h7) (fun j a A z p f r hk hn hE' hO' => ?_) 17 0 b0 M1 _ rfl p0 (fun _ _ _ => rfl) r0 (fun e M2 he hf => ?_) (fun dn M2 he r2 f2 => ?_)
  · rw [b_42_93, if_pos (by decide), b_42_104, if_pos (by decide), b_42_117, if_pos (by decide), b_42_130]
    refine x_bound (e := d + 20) (TK_f tk (fT_c f)) p r hn hk (hL0 A f) (hG0 A f) hG.t.L6 hG.t.G8 (fun er M' he hf => ?_) (fun q M' hq p1 r1 hct f3 => ?_)
    · rw [am_ans_some, b_42_135, if_pos rfl, b_42_151]
      exact hE' er M' he (FC_c hf (fT_c f))
    · rw [am_ans_some]
      exact hO' q M' hq p1 r1 hct (fT_tr f3 f)
  · rw [am_ans_some, b_135_15, if_neg (fun z => z rfl), b_135_18]
    have f2 : ∀ a k, ¬ cT a k → M2 a k = M a k := fun a k hk => by
      rw [hf.f a k (fun z => hk (by unfold cT; omega))]; exact f1 a k hk
    refine hE N e M2 hte he (CI_R hC ?_ z0 hf.k hf.p (fun a k h1 h2 h3 => f2 a k (fun z => ?_))) (fun a ha => funext fun k => f2 a k (fun z => ?_))
    · rw [hf.f _ _ (by omega)]; exact e0
    · unfold cT at z; unfold sC at h2; omega
    · unfold cT at z; omega
  · have h16 : dn.1 ≤ 16 := r2.1
    rw [am_ans_some, b_135_15, if_pos bn1, b_135_20, if_pos (by decide), b_135_52, if_pos (by decide), b_135_67, if_pos (by decide), b_135_82, b_135_89v2, b_35i2_0, k_197_44, am_ans_none, b_35i2_11, am_ans_none, b_135_101v2, if_neg (by decide), b_135_106v2]
    have m4 : ∀ a, ¬ a = 44 → am_row M2 44 (va_cpy (M2 197) (M2 44) 0 0 80) a = M2 a := fun a ha => row_ne _ _ (by omega)
    have r4 : ∀ k, k < 80 → am_row M2 44 (va_cpy (M2 197) (M2 44) 0 0 80) 44 k = M2 197 k := fun k hk => cp_at hk
    generalize am_row M2 44 (va_cpy (M2 197) (M2 44) 0 0 80) = M3 at m4 r4 ⊢
    have c39 : M3 196 1 = nI dn.1 := by rw [m4 _ (by decide)]; exact r2.2.1
    rw [c39]
    have g : ∀ a k, ¬ (a = 43 ∧ k = 1) → am_up M3 43 1 (nI dn.1) a k = M3 a k := fun a k hk => up_pt _ _ hk
    have g39 : am_up M3 43 1 (nI dn.1) 43 1 = nI dn.1 := by rw [up_same, upd_same]
    generalize am_up M3 43 1 (nI dn.1) = M4 at g g39 ⊢
    have fA : ∀ a k, ¬ cT a k → M2 a k = M a k := fun a k hk => by
      rw [f2 a k (fun z => hk (by unfold cT; omega))]; exact f1 a k hk
    have fB : ∀ a k, ¬ (a = 43 ∨ a = 44) → M4 a k = M2 a k := fun a k hk => by
      rw [g a k (by omega), m4 a (by omega)]
    have c2 : CI Mi M2 (sR s 0 s.tp 0 (-1)) := CI_R hC (by rw [f2 _ _ (by omega)]; exact e0) z0 (by rw [f2 _ _ (by omega)]; exact e1) (by rw [f2 _ _ (by omega)]; exact e2) (fun a k h1 h2 h3 => fA a k (fun z => by unfold cT at z; unfold sC at h2; omega))
    have r40 : ∀ k, k < 80 → M4 44 k = M2 197 k := fun k hk => by rw [g _ _ (by omega)]; exact r4 k hk
    have hb : ∀ i, i < dn.1 → dn.2.1 i < s.t.x.G ∧ dn.2.2 i < s.t.x.L := r2.2.2.2
    have hr : ∀ i, i < dn.1 → M4 44 (5 * i) = nI (dn.2.1 i) ∧ M4 44 (5 * i + 1) = nI (dn.2.2 i) := fun i hi => by
      rw [r40 _ (by omega), r40 _ (by omega)]; exact r2.2.2.1 i hi
    refine x_binds (d := d + 22) (x := s.t.x) (t := dn) h16 g39 hr hb (by rw [fB _ _ (by omega)]; exact hG0 M2 f2) hG.t.G8 hG.t.L6 (fun M5 u5 f5 => ?_)
    rw [am_ans_none, b_135_117v2, c_37, am_ans_none, b_135_124v2]
    have w43 : am_up M5 113 2 0 43 1 = nI dn.1 := by rw [up_pt _ _ (by omega), f5 _ _ (by omega)]; exact g39
    have w113 : am_up M5 113 2 0 113 2 = 0 := by rw [up_same, upd_same]
    have w25 : ∀ q, q < 8 → am_up M5 113 2 0 25 q = nI (upB dn.2.1 dn.2.2 dn.1 q) - 1 := fun q hq => by rw [up_pt _ _ (by omega)]; exact u5 q hq
    have fC : ∀ a k, ¬ (a = 25 ∨ a = 43 ∨ a = 44 ∨ (a = 113 ∧ k = 2)) → am_up M5 113 2 0 a k = M2 a k := fun a k hk => by
      rw [up_pt _ _ (by omega), f5 _ _ (by omega)]; exact fB a k (by omega)
    rw [w43]
    generalize am_up M5 113 2 0 = M6 at w43 w113 w25 fC ⊢
    have g8 := hG.t.G8
    have cw : CW (17 + 1) M6 (xU s.t.x (fun q => upB dn.2.1 dn.2.2 dn.1 q)) s.t.W := CW_U c2.tw.w (fun k hk => w25 k (Nat.lt_of_lt_of_le hk g8)) (fun a h1 h2 h3 => funext fun k => fC a k (by omega))
    refine hO N dn M6 hte he ⟨h16, hb⟩ (CI_T0 c2 (CT_B c2.tw (Or.inl rfl) cw w43 (fun a k h1 h2 h3 h4 h5 => fC a k (by omega))) w113 (fun a k h1 h2 h3 h4 => fC a k (by omega))) (fun a ha => funext fun k => ?_)
    rw [fC a k (by omega)]
    exact fA a k (fun z => by unfold cT at z; omega)
theorem m_t3 {d nS c N : Nat} {s : St} {M : am_M} {Q : Option Value → am_H → Prop} (hM : MI M s) (hG : GI c s) (hte : TE (kK s.tp s.len) (kV s.tp s.len) N) (hE : ∀ e M', gB s = .error e → MI M' (sR s 0 s.tp (nI e.1) (nI (ps s.tp s.len e.2))) → Fm M M' → Q (some (.int (-1))) (hp nS M')) (hO : ∀ (dn : Bd) M', gB s = .ok dn → MI M' (sT0 (sR s 0 s.tp 0 (-1)) (tB s.t dn)) → Fm M M' → Q (some (.int (nI dn.1))) (hp nS M')) (h16 : ∀ dn : Bd, gB s = .ok dn → dn.1 ≤ 16) : am_Wp (d + 11) 183 0 [.ref 205, .int 3, .retAddr 0] [] (hp nS M) Q := by
  refine m_begin hM hG (by decide) (by decide) (fun M1 a1 t1 e28 e29 e30 e35 e36 f1 => ?_)
  have z0 : ∀ {P : Nat → Prop}, ∀ k, k < 0 → P k := fun k hk => absurd hk (Nat.not_lt_zero k)
  rw [b_184_9, if_pos (by decide), b_184_19, if_pos (by decide), b_184_29, if_neg (fun z => z rfl), b_184_34]
  have p0 : PM s.tp s.len N 0 (cOf (lw0 s.t.l)) M1 M1 := ⟨a1, Nat.zero_le _, e29, z0, z0, fun _ _ _ => rfl⟩
  have sm : ∀ {a k}, mT a k → sM a k ∨ (a = 205 ∧ (k = 15 ∨ k = 35 ∨ k = 36)) := fun {a k} h => by
    by_cases c : k = 35 ∨ k = 36
    · exact Or.inr ⟨h.1, by omega⟩
    · exact Or.inl (Or.inl ⟨h.1, by have := h.2; omega⟩)
  have hL : M1 205 8 = nI s.t.x.L := by rw [f1 _ _ (by unfold mT; omega)]; exact hM.tw.mx.fL
  have hGG : M1 205 9 = nI s.t.x.G := by rw [f1 _ _ (by unfold mT; omega)]; exact hM.tw.mx.fG
  refine m_clr (fun MA z8 fa => ?_)
  have eA : eX M1 MA := fun a q hq => fa a q (fun z => hq (Or.inr (Or.inr (Or.inr z))))
  have pA : PM s.tp s.len N 0 (cOf (lw0 s.t.l)) MA MA := ⟨AT_f p0.a (fun k hk => fa _ _ (by omega)), p0.jn, (fa _ _ (by omega)).trans p0.u, z0, z0, fun _ _ _ => rfl⟩
  refine m_bnds (d := d + 2) (x := s.t.x) ⟨t1, hte⟩ hL hGG hG.t.L6 hG.t.G8 17 0 b0 MA rfl (Nat.zero_le _) pA eA (fun q hq => z8 q hq) (fun e M2 he hf => ?_) (fun dn M2 hl r2 h2 => ?_)
  · rw [am_ans_some, b_184_38, b_184_45, am_ans_some, b_183_47, if_neg (fun z => z rfl), b_183_53, b_183_69, if_neg (fun z => z rfl), b_183_79]
    have w34 : am_up M2 205 35 (M2 205 33) 205 34 = M2 205 34 := up_pt _ _ (by omega)
    rw [w34, hf.k, hf.p]
    have f2 : ∀ a k, ¬ (sM a k ∨ (a = 205 ∧ (k = 15 ∨ k = 35 ∨ k = 36))) → am_up (am_up (am_up M2 205 35 (nI e.1)) 205 36 (nI (ps s.tp s.len e.2))) 205 15 0 a k = M a k := fun a k hk => by
      have hk2 : ¬ (a = 205 ∧ (k = 15 ∨ k = 35 ∨ k = 36)) := fun z => hk (Or.inr z)
      rw [up_pt _ _ (fun z => hk2 ⟨z.1, Or.inl z.2⟩), up_pt _ _ (fun z => hk2 ⟨z.1, Or.inr (Or.inr z.2)⟩), up_pt _ _ (fun z => hk2 ⟨z.1, Or.inr (Or.inl z.2)⟩), hf.f a k (fun z => hk (Or.inl (sF_sM z)))]
      exact f1 a k (fun z => hk (sm z))
    have w15 : am_up (am_up (am_up M2 205 35 (nI e.1)) 205 36 (nI (ps s.tp s.len e.2))) 205 15 0 205 15 = 0 := by rw [up_same, upd_same]
    have w35 : am_up (am_up (am_up M2 205 35 (nI e.1)) 205 36 (nI (ps s.tp s.len e.2))) 205 15 0 205 35 = nI e.1 := by rw [up_pt _ _ (by omega), up_pt _ _ (by omega), up_same, upd_same]
    have w36 : am_up (am_up (am_up M2 205 35 (nI e.1)) 205 36 (nI (ps s.tp s.len e.2))) 205 15 0 205 36 = nI (ps s.tp s.len e.2) := by rw [up_pt _ _ (by omega), up_same, upd_same]
    generalize am_up (am_up (am_up M2 205 35 (nI e.1)) 205 36 (nI (ps s.tp s.len e.2))) 205 15 0 = M3 at f2 w15 w35 w36 ⊢
    exact hE e M3 he (MI_R hM hG w15 z0 w35 w36 (fun a k h1 h2 h3 => f2 a k (fun z => z.elim h2 (fun z => h3 (Or.inl z))))) (fun a ha => funext fun k => f2 a k (fun z => by unfold sM at z; omega))
  · have n16 := h16 dn hl
    rw [am_ans_some, b_184_38, b_184_45, am_ans_some, b_183_47, if_pos (nm1 (by omega)), b_183_69, if_pos (nm1 (by omega)), b_183_81, if_pos (by decide), b_183_93]
    have g2 : ∀ a k, ¬ (a = 205 ∧ k = 15) → am_up M2 205 15 0 a k = M2 a k := fun a k hk => up_pt _ _ hk
    have w15 : am_up M2 205 15 0 205 15 = 0 := by rw [up_same, upd_same]
    generalize am_up M2 205 15 0 = M3 at g2 w15 ⊢
    have k28 : ∀ k, (k = 28 ∨ k = 35 ∨ k = 36) → M2 205 k = M1 205 k := fun k hk => h2 205 k (by unfold sX; omega)
    have r3 : UM dn M3 := fun q hq => (g2 _ _ (by omega)).trans (r2 q hq)
    refine m_oth3 n16 r3 (fun M4 l4 l41 h5 f4 => ?_)
    rw [am_ans_none, b_183_99]
    have f3 : ∀ a k, ¬ (sM a k ∨ (a = 205 ∧ (k = 15 ∨ k = 35 ∨ k = 36))) → M3 a k = M a k := fun a k hk => by
      rw [g2 a k (fun z => hk (Or.inr ⟨z.1, Or.inl z.2⟩)), h2 a k (fun z => hk (Or.inl (sF_sM (sX_F z))))]
      exact f1 a k (fun z => hk (sm z))
    have m3 : MI M3 (sR s 0 s.tp 0 (-1)) := MI_R hM hG w15 z0 (by rw [g2 _ _ (by omega), k28 35 (by omega)]; exact e35) (by rw [g2 _ _ (by omega), k28 36 (by omega)]; exact e36) (fun a k h1 h2 h3 => f3 a k (fun z => z.elim h2 (fun z => h3 (Or.inl z))))
    have g3 : GI (c + 1) (sR s 0 s.tp 0 (-1)) := GI_R hG (Nat.zero_le _) z0
    have m5 : MTV M4 (tB s.t dn) := MT_B m3.tw (GT_bd g3.t) l4 l41 f4
    refine hO dn M4 hl (MI_T0 m3 g3 m5 h5 (fun a k h1 h2 h3 h4 => f4 a k (fun z => z.elim (fun z => h3 (by unfold rT; omega)) (fun z => by rcases z.2 with q | q; exact h4 ⟨z.1, q⟩; exact h3 (by unfold rT; omega))))) (fun a ha => funext fun k => ?_)
    rw [f4 a k (by omega)]
    exact f3 a k (fun z => by unfold sM at z; omega)
theorem p_t3 {nS d c : Nat} {Mi M : am_M} {s : St} (hR : RO Mi) (hC : CI Mi M s) (hM : MI M s) (hG : GI c s) : prS nS (d + 24) c Mi 135 [.ref 16, .int 3, .retAddr 0] 183 [.ref 205, .int 3, .retAddr 0] M := by
  have z0 : ∀ {P : Nat → Prop}, ∀ k, k < 0 → P k := fun k hk => absurd hk (Nat.not_lt_zero k)
  refine x_t3 hR hC hG (fun N e M1 hte he hC1 hF => ?_) (fun N l M1 hte he ok hC1 hF => ?_)
  · refine ⟨_, M1, rfl, rfl, ?_⟩
    refine m_t3 (d := d + 13) (MI_fr hM hG hF) hG hte (fun e' M2 he' hM2 hF2 => ?_) (fun l' M2 he' _ _ => by rw [he] at he'; cases he') (fun l' he' => by rw [he] at he'; cases he')
    rw [he] at he'
    cases he'
    exact Kq_mk hC1 hM2 hF2 (GI_R hG (Nat.zero_le _) z0)
  · refine ⟨_, M1, rfl, rfl, ?_⟩
    refine m_t3 (d := d + 13) (MI_fr hM hG hF) hG hte (fun e' M2 he' _ _ => by rw [he] at he'; cases he') (fun l' M2 he' hM2 hF2 => ?_) (fun l' he' => by rw [he] at he'; cases he'; exact ok.1)
    rw [he] at he'
    cases he'
    exact Kq_mk hC1 hM2 hF2 ⟨GT_mono (GT_B hG.t ok.1 ok.2) (by omega), Nat.zero_le _, hG.q6, z0, Nat.zero_le _, z0, fun hk => GT_mono (hG.kt hk) (by omega)⟩
end
