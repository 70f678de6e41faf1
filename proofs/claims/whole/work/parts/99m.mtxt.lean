section
/-! TEXT 0, BOTH -/
theorem GT_L {c : Nat} {t : Tn} {l : Lw} (h : GT c t) (hl : LwOk l) : GT c (tL t l) := ⟨h.L6, h.G8, h.T10, h.up, h.u0, hl, h.dk, h.tk, h.b16, h.p14, h.pr, h.w14, h.we, h.rt, h.r0, h.s8, h.sw, h.sv, h.wg⟩
def mT (a k : Nat) : Prop := a = 205 ∧ (k = 0 ∨ k = 16 ∨ k = 17 ∨ k = 18 ∨ k = 19 ∨ k = 28 ∨ k = 29 ∨ k = 30 ∨ k = 35 ∨ k = 36)
theorem m_begin {d nS c : Nat} {s : St} {x : Int32} {M : am_M} {Q : Option Value → am_H → Prop} (hM : MI M s) (hG : GI c s) (h0 : ¬ x < 0) (h3 : ¬ 3 < x) (hQ : ∀ M', AT s.tp s.len 0 M' → TM M' s.len s.tp → M' 205 28 = 0 → M' 205 29 = 0 → M' 205 30 = 0 → M' 205 35 = 0 → M' 205 36 = -1 → (∀ a k, ¬ mT a k → M' a k = M a k) → am_Wp (d + 10) 184 9 [.ref 205, .int x] [] (hp nS M') (fun v h1 => am_Wp (d + 11) 183 47 [.ref 205, .int x, .int (-1)] (am_ans v []) h1 Q)) : am_Wp (d + 11) 183 0 [.ref 205, .int x, .retAddr 0] [] (hp nS M) Q := by
  rw [b_183_0, c_171, am_ans_some, b_183_39, if_pos (show ¬ x < 0 ∧ ¬ 3 < x from ⟨h0, h3⟩), if_neg (show ¬ (1 : Int32) = 0 by decide), b_183_42, b_184_0]
  have g : ∀ a k, ¬ (a = 205 ∧ (k = 0 ∨ k = 16 ∨ k = 28 ∨ k = 29 ∨ k = 30 ∨ k = 35 ∨ k = 36)) → am_up (am_up (am_up (am_up (am_up (am_up (am_up M 205 0 0) 205 35 0) 205 36 (-1)) 205 16 0) 205 29 0) 205 30 0) 205 28 0 a k = M a k := fun a k hk => by rw [up_pt _ _ (by omega), up_pt _ _ (by omega), up_pt _ _ (by omega), up_pt _ _ (by omega), up_pt _ _ (by omega), up_pt _ _ (by omega), up_pt _ _ (by omega)]
  have v28 : am_up (am_up (am_up (am_up (am_up (am_up (am_up M 205 0 0) 205 35 0) 205 36 (-1)) 205 16 0) 205 29 0) 205 30 0) 205 28 0 205 28 = 0 := by rw [up_same, upd_same]
  have v30 : am_up (am_up (am_up (am_up (am_up (am_up (am_up M 205 0 0) 205 35 0) 205 36 (-1)) 205 16 0) 205 29 0) 205 30 0) 205 28 0 205 30 = 0 := by rw [up_pt _ _ (by omega), up_same, upd_same]
  have v29 : am_up (am_up (am_up (am_up (am_up (am_up (am_up M 205 0 0) 205 35 0) 205 36 (-1)) 205 16 0) 205 29 0) 205 30 0) 205 28 0 205 29 = 0 := by rw [up_pt _ _ (by omega), up_pt _ _ (by omega), up_same, upd_same]
  have v16 : am_up (am_up (am_up (am_up (am_up (am_up (am_up M 205 0 0) 205 35 0) 205 36 (-1)) 205 16 0) 205 29 0) 205 30 0) 205 28 0 205 16 = 0 := by rw [up_pt _ _ (by omega), up_pt _ _ (by omega), up_pt _ _ (by omega), up_same, upd_same]
  have v36 : am_up (am_up (am_up (am_up (am_up (am_up (am_up M 205 0 0) 205 35 0) 205 36 (-1)) 205 16 0) 205 29 0) 205 30 0) 205 28 0 205 36 = -1 := by rw [up_pt _ _ (by omega), up_pt _ _ (by omega), up_pt _ _ (by omega), up_pt _ _ (by omega), up_same, upd_same]
  have v35 : am_up (am_up (am_up (am_up (am_up (am_up (am_up M 205 0 0) 205 35 0) 205 36 (-1)) 205 16 0) 205 29 0) 205 30 0) 205 28 0 205 35 = 0 := by rw [up_pt _ _ (by omega), up_pt _ _ (by omega), up_pt _ _ (by omega), up_pt _ _ (by omega), up_pt _ _ (by omega), up_same, upd_same]
  generalize am_up (am_up (am_up (am_up (am_up (am_up (am_up M 205 0 0) 205 35 0) 205 36 (-1)) 205 16 0) 205 29 0) 205 30 0) 205 28 0 = M1 at g v28 v30 v29 v16 v36 v35 ⊢
  have tm : TM M1 s.len s.tp := ⟨by rw [g _ _ (by omega)]; exact hM.ln, fun k hk => by rw [g _ _ (by omega)]; exact hM.tp k hk, hG.l4, hG.tp, fun k hk => by rw [g _ _ (by omega)]; exact hM.wd k hk⟩
  refine m_reads (d := d + 6) (p := 0) (j := 0) tm v16 (Nat.zero_le _) rfl (fun M2 a2 f2 => ?_)
  rw [am_ans_none]
  refine hQ M2 a2 (TM_f tm f2) ?_ ?_ ?_ ?_ ?_ (fun a k hk => ?_)
  · rw [f2 _ _ (by omega)]; exact v28
  · rw [f2 _ _ (by omega)]; exact v29
  · rw [f2 _ _ (by omega)]; exact v30
  · rw [f2 _ _ (by omega)]; exact v35
  · rw [f2 _ _ (by omega)]; exact v36
  · unfold mT at hk
    rw [f2 _ _ (by omega)]; exact g a k (by omega)
theorem sF_sM {a k : Nat} (h : sF a k) : sM a k := by
  rcases h with h | h | h | h
  · rcases h with h | h | h | h
    · exact Or.inl ⟨h.1, by omega⟩
    · unfold sM; omega
    · unfold sM; omega
    · unfold sM; omega
  · exact Or.inl ⟨h.1, by omega⟩
  · unfold sM; omega
  · unfold sM; omega
theorem m_t0 {d nS c N : Nat} {s : St} {M : am_M} {Q : Option Value → am_H → Prop} (hM : MI M s) (hG : GI c s) (hte : TE (kK s.tp s.len) (kV s.tp s.len) N) (hE : ∀ e M', lwL (kK s.tp s.len) (kV s.tp s.len) 17 0 (lw0 s.t.l) = .error e → MI M' (sR s 0 s.tp (nI e.1) (nI (ps s.tp s.len e.2))) → Fm M M' → Q (some (.int (-1))) (hp nS M')) (hO : ∀ l M', lwL (kK s.tp s.len) (kV s.tp s.len) 17 0 (lw0 s.t.l) = .ok l → LwOk l → MI M' (sT (sR s 0 s.tp 0 (-1)) (tL s.t l)) → Fm M M' → Q (some (.int (nI l.n))) (hp nS M')) : am_Wp (d + 11) 183 0 [.ref 205, .int 0, .retAddr 0] [] (hp nS M) Q := by
  refine m_begin hM hG (by decide) (by decide) (fun M1 a1 t1 e28 e29 e30 e35 e36 f1 => ?_)
  rw [b_184_9, if_pos (by decide), b_184_19, if_pos (by decide), b_184_29, if_pos (by decide), b_184_41, b_204_0]
  have lm : LM s.tp s.len N 0 (lw0 s.t.l) M1 M1 := ⟨a1, Nat.zero_le _, e29, fun k hk => absurd hk (Nat.not_lt_zero k), fun k hk => absurd hk (Nat.not_lt_zero k), fun k hk => absurd hk (Nat.not_lt_zero k), fun k hk => absurd hk (Nat.not_lt_zero k), fun k hk => absurd hk (Nat.not_lt_zero k), fun k hk => absurd hk (Nat.not_lt_zero k), e30, fun _ _ _ => rfl⟩
  have sm : ∀ {a k}, mT a k → sM a k ∨ (a = 205 ∧ (k = 15 ∨ k = 35 ∨ k = 36)) := fun {a k} h => by
    by_cases c : k = 35 ∨ k = 36
    · exact Or.inr ⟨h.1, by omega⟩
    · exact Or.inl (Or.inl ⟨h.1, by have := h.2; omega⟩)
  refine m_law (d := d) ⟨t1, hte⟩ 17 0 (lw0 s.t.l) M1 _ rfl (lw0_ok _) (Nat.le_refl _) lm (fun e M2 he hf => ?_) (fun l j M2 hl h2 => ?_)
  · rw [am_ans_some, b_184_45, am_ans_some, b_183_47, if_neg (fun z => z rfl), b_183_53, b_183_69, if_neg (fun z => z rfl), b_183_79]
    have w34 : am_up M2 205 35 (M2 205 33) 205 34 = M2 205 34 := up_pt _ _ (by omega)
    rw [w34, hf.k, hf.p]
    have f2 : ∀ a k, ¬ (sM a k ∨ (a = 205 ∧ (k = 15 ∨ k = 35 ∨ k = 36))) → am_up (am_up (am_up M2 205 35 (nI e.1)) 205 36 (nI (ps s.tp s.len e.2))) 205 15 0 a k = M a k := fun a k hk => by
      have hk2 : ¬ (a = 205 ∧ (k = 15 ∨ k = 35 ∨ k = 36)) := fun z => hk (Or.inr z)
      rw [up_pt _ _ (fun z => hk2 ⟨z.1, Or.inl z.2⟩), up_pt _ _ (fun z => hk2 ⟨z.1, Or.inr (Or.inr z.2)⟩), up_pt _ _ (fun z => hk2 ⟨z.1, Or.inr (Or.inl z.2)⟩), hf.f a k (fun z => hk (Or.inl (sF_sM z)))]
      exact f1 a k (fun z => hk (sm z))
    have w15 : am_up (am_up (am_up M2 205 35 (nI e.1)) 205 36 (nI (ps s.tp s.len e.2))) 205 15 0 205 15 = 0 := by rw [up_same, upd_same]
    have w35 : am_up (am_up (am_up M2 205 35 (nI e.1)) 205 36 (nI (ps s.tp s.len e.2))) 205 15 0 205 35 = nI e.1 := by rw [up_pt _ _ (by omega), up_pt _ _ (by omega), up_same, upd_same]
    have w36 : am_up (am_up (am_up M2 205 35 (nI e.1)) 205 36 (nI (ps s.tp s.len e.2))) 205 15 0 205 36 = nI (ps s.tp s.len e.2) := by rw [up_pt _ _ (by omega), up_same, upd_same]
    generalize am_up (am_up (am_up M2 205 35 (nI e.1)) 205 36 (nI (ps s.tp s.len e.2))) 205 15 0 = M3 at f2 w15 w35 w36 ⊢
    exact hE e M3 he (MI_R hM hG w15 (fun k hk => absurd hk (Nat.not_lt_zero k)) w35 w36 (fun a k h1 h2 h3 => f2 a k (fun z => z.elim h2 (fun z => h3 (Or.inl z))))) (fun a ha => funext fun k => f2 a k (fun z => by unfold sM at z; omega))
  · have ok := lwL_ok hte 17 0 _ l (Nat.zero_le _) (Nat.le_refl _) (lw0_ok _) hl
    have n16 := ok.n16
    have nm1 : ¬ nI l.n = -1 := fun z => by
      have h0 : nI l.n < 0 := by rw [z]; decide
      rw [li, lt_n (by omega) (by omega)] at h0
      omega
    rw [am_ans_some, b_184_45, am_ans_some, b_183_47, if_pos nm1, b_183_69, if_pos nm1, b_183_81, if_neg (fun z => z rfl), b_183_85]
    have g2 : ∀ a k, ¬ (a = 205 ∧ k = 15) → am_up M2 205 15 0 a k = M2 a k := fun a k hk => up_pt _ _ hk
    have w15 : am_up M2 205 15 0 205 15 = 0 := by rw [up_same, upd_same]
    generalize am_up M2 205 15 0 = M3 at g2 w15 ⊢
    have k28 : ∀ k, (k = 28 ∨ k = 35 ∨ k = 36) → M2 205 k = M1 205 k := fun k hk => h2.f 205 k (by unfold sL; omega)
    refine m_tkL ok (by rw [g2 _ _ (by omega), k28 28 (by omega)]; exact e28) (by rw [g2 _ _ (by omega)]; exact h2.u) (fun k hk => (g2 _ _ (by omega)).trans (h2.w k hk)) (fun k hk => (g2 _ _ (by omega)).trans (h2.v k hk)) (fun k hk => (g2 _ _ (by omega)).trans (h2.h k hk)) (fun k hk => (g2 _ _ (by omega)).trans (h2.t k hk)) (fun k hk => (g2 _ _ (by omega)).trans (h2.op k hk)) (fun k hk => (g2 _ _ (by omega)).trans (h2.ar k hk)) (fun M4 l4 f4 => ?_)
    rw [am_ans_none, b_183_90, b_183_99]
    have f3 : ∀ a k, ¬ (sM a k ∨ (a = 205 ∧ (k = 15 ∨ k = 35 ∨ k = 36))) → M3 a k = M a k := fun a k hk => by
      rw [g2 a k (fun z => hk (Or.inr ⟨z.1, Or.inl z.2⟩)), h2.f a k (fun z => hk (Or.inl (sF_sM (Or.inl z))))]
      exact f1 a k (fun z => hk (sm z))
    have m3 : MI M3 (sR s 0 s.tp 0 (-1)) := MI_R hM hG w15 (fun k hk => absurd hk (Nat.not_lt_zero k)) (by rw [g2 _ _ (by omega), k28 35 (by omega)]; exact e35) (by rw [g2 _ _ (by omega), k28 36 (by omega)]; exact e36) (fun a k h1 h2 h3 => f3 a k (fun z => z.elim h2 (fun z => h3 (Or.inl z))))
    have g3 : GI (c + 1) (sR s 0 s.tp 0 (-1)) := GI_R hG (Nat.zero_le _) (fun k hk => absurd hk (Nat.not_lt_zero k))
    refine hO l M4 hl ok (MI_T m3 g3 (MT_L m3.tw (GT_bd g3.t) l4 (fun a k h1 h2 h3 => f4 a k h3)) (fun a k h1 h2 h3 => f4 a k (fun z => h3 (by unfold rT; omega)))) (fun a ha => funext fun k => ?_)
    rw [f4 a k (by omega)]
    exact f3 a k (fun z => by unfold sM at z; omega)
theorem p_t0 {nS d c : Nat} {Mi M : am_M} {s : St} (hR : RO Mi) (hC : CI Mi M s) (hM : MI M s) (hG : GI c s) : prS nS (d + 24) c Mi 135 [.ref 16, .int 0, .retAddr 0] 183 [.ref 205, .int 0, .retAddr 0] M := by
  refine x_t0 hR hC hG (fun N e M1 hte he hC1 hF => ?_) (fun N l M1 hte he ok hC1 hF => ?_)
  · refine ⟨_, M1, rfl, rfl, ?_⟩
    refine m_t0 (d := d + 13) (MI_fr hM hG hF) hG hte (fun e' M2 he' hM2 hF2 => ?_) (fun l' M2 he' _ _ _ => by rw [he] at he'; cases he')
    rw [he] at he'
    cases he'
    exact Kq_mk hC1 hM2 hF2 (GI_R hG (Nat.zero_le _) (fun k hk => absurd hk (Nat.not_lt_zero k)))
  · refine ⟨_, M1, rfl, rfl, ?_⟩
    refine m_t0 (d := d + 13) (MI_fr hM hG hF) hG hte (fun e' M2 he' _ _ => by rw [he] at he'; cases he') (fun l' M2 he' _ hM2 hF2 => ?_)
    rw [he] at he'
    cases he'
    refine Kq_mk hC1 hM2 hF2 ⟨GT_mono (GT_L hG.t ok) (by omega), hG.n6, hG.q6, fun i hi => WG_mono (hG.pw i hi) (by omega), Nat.zero_le _, fun k hk => absurd hk (Nat.not_lt_zero k), fun hk => GT_mono (hG.kt hk) (by omega)⟩
end
