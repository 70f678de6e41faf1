section
/-! A TOWN COPIED -/
abbrev L3 := List (Nat × Nat × Nat)
def l3 (L : L3) (i : Nat) : Nat × Nat × Nat := L.getD i (0, 0, 0)
def tcs (b2 b1 : Nat) (L : L3) (M0 M : am_M) : Prop := (∀ a, ¬ (b2 + 13 ≤ a ∧ a ≤ b2 + 41) → M a = M0 a) ∧ ∀ i k, (l3 L i).2.1 ≤ k → k < (l3 L i).2.2 → M (b2 + (l3 L i).1) k = M0 (b1 + (l3 L i).1) k
theorem tcs_0 (b2 b1 : Nat) (M : am_M) : tcs b2 b1 [] M M := ⟨fun _ _ => rfl, fun i k _ h => by
  have e : l3 [] i = (0, 0, 0) := by unfold l3; cases i <;> rfl
  rw [e] at h; exact absurd h (Nat.not_lt_zero k)⟩
theorem tcs_e {b2 b1 : Nat} {L : L3} {M0 M : am_M} (h : tcs b2 b1 L M0 M) {a : Nat} (ha : ¬ (b2 + 13 ≤ a ∧ a ≤ b2 + 41)) : M a = M0 a := h.1 a ha
theorem tcs_row {b2 b1 : Nat} {L : L3} {M0 M : am_M} (h : tcs b2 b1 L M0 M) (hb : b1 + 42 ≤ b2 ∨ b2 + 42 ≤ b1) (o0 n0 a b : Nat) (h1 : 13 ≤ o0) (h2 : o0 ≤ 41) (ha : a = b1 + o0) (hb' : b = b2 + o0) : tcs b2 b1 ((o0, 0, n0) :: L) M0 (am_row M b (va_cpy (M a) (M b) 0 0 n0)) := by
  subst ha hb'
  have old : ∀ o k, ¬ (o = o0 ∧ k < n0) → am_row M (b2 + o0) (va_cpy (M (b1 + o0)) (M (b2 + o0)) 0 0 n0) (b2 + o) k = M (b2 + o) k := by
    intro o k hn
    by_cases e : o = o0
    · subst e
      rw [row_same]
      unfold va_cpy
      rw [if_neg (by omega)]
    · rw [row_ne _ _ (by omega)]
  have new : ∀ k, k < n0 → am_row M (b2 + o0) (va_cpy (M (b1 + o0)) (M (b2 + o0)) 0 0 n0) (b2 + o0) k = M0 (b1 + o0) k := by
    intro k hk
    rw [row_same]
    unfold va_cpy
    rw [if_pos ⟨Nat.zero_le _, by omega⟩, h.1 (b1 + o0) (by omega), show 0 + (k - 0) = k by omega]
  refine ⟨fun a ha => by rw [row_ne _ _ (by omega)]; exact h.1 a ha, fun i k g1 g2 => ?_⟩
  cases i with
  | zero => exact new k g2
  | succ i =>
    have e : l3 ((o0, 0, n0) :: L) (i + 1) = l3 L i := rfl
    rw [e] at g1 g2 ⊢
    by_cases c : (l3 L i).1 = o0 ∧ k < n0
    · rw [c.1]; exact new k c.2
    · rw [old _ _ c]; exact h.2 i k g1 g2
theorem tcs_up {b2 b1 : Nat} {L : L3} {M0 M : am_M} (h : tcs b2 b1 L M0 M) (hb : b1 + 42 ≤ b2 ∨ b2 + 42 ≤ b1) (o0 k0 a b : Nat) (h1 : 13 ≤ o0) (h2 : o0 ≤ 41) (ha : a = b1 + o0) (hb' : b = b2 + o0) : tcs b2 b1 ((o0, k0, k0 + 1) :: L) M0 (am_up M b k0 (M a k0)) := by
  subst ha hb'
  refine ⟨fun a ha => by rw [up_ne _ _ _ (by omega)]; exact h.1 a ha, fun i k g1 g2 => ?_⟩
  have new : am_up M (b2 + o0) k0 (M (b1 + o0) k0) (b2 + o0) k0 = M0 (b1 + o0) k0 := by rw [up_same, upd_same, h.1 (b1 + o0) (by omega)]
  cases i with
  | zero =>
    have g1 : k0 ≤ k := g1
    have g2 : k < k0 + 1 := g2
    have : k = k0 := by omega
    subst this
    exact new
  | succ i =>
    have e : l3 ((o0, k0, k0 + 1) :: L) (i + 1) = l3 L i := rfl
    rw [e] at g1 g2 ⊢
    by_cases c : (l3 L i).1 = o0 ∧ k = k0
    · rw [c.1, c.2]; exact new
    · rw [up_pt _ _ (by omega)]; exact h.2 i k g1 g2
theorem tk_row {dd mi pc : Nat} {as st : List Value} {Q : Option Value → am_H → Prop} {nS b2 b1 : Nat} {L : L3} {M0 M : am_M} (h : tcs b2 b1 L M0 M) (hb : b1 + 42 ≤ b2 ∨ b2 + 42 ≤ b1) (o0 n0 a b : Nat) (h1 : 13 ≤ o0) (h2 : o0 ≤ 41) (ha : a = b1 + o0) (hb' : b = b2 + o0) (e : ∀ Q : Option Value → am_H → Prop, am_Wp dd mi pc as st (hp nS M) Q = Q none (hp nS (am_row M b (va_cpy (M a) (M b) 0 0 n0)))) (hQ : ∀ M', tcs b2 b1 ((o0, 0, n0) :: L) M0 M' → Q none (hp nS M')) : am_Wp dd mi pc as st (hp nS M) Q := by
  rw [e]; exact hQ _ (tcs_row h hb o0 n0 a b h1 h2 ha hb')
theorem tk_up {dd mi pc : Nat} {as st : List Value} {Q : Option Value → am_H → Prop} {nS b2 b1 : Nat} {L : L3} {M0 M : am_M} (h : tcs b2 b1 L M0 M) (hb : b1 + 42 ≤ b2 ∨ b2 + 42 ≤ b1) (o0 k0 a b : Nat) (h1 : 13 ≤ o0) (h2 : o0 ≤ 41) (ha : a = b1 + o0) (hb' : b = b2 + o0) (e : ∀ Q : Option Value → am_H → Prop, am_Wp dd mi pc as st (hp nS M) Q = Q none (hp nS (am_up M b k0 (M a k0)))) (hQ : ∀ M', tcs b2 b1 ((o0, k0, k0 + 1) :: L) M0 M' → Q none (hp nS M')) : am_Wp dd mi pc as st (hp nS M) Q := by
  rw [e]; exact hQ _ (tcs_up h hb o0 k0 a b h1 h2 ha hb')
/-- all that is copied, the world aside -/
def tcR (u o k : Nat) : Prop := (o = 13 ∧ k < 600) ∨ (o = 14 ∧ k < 2) ∨ (15 ≤ o ∧ o ≤ 18 ∧ k < 16) ∨ (o = 19 ∧ k < u) ∨ ((o = 22 ∨ o = 24 ∨ o = 26 ∨ o = 28 ∨ o = 33) ∧ k = 1) ∨ ((o = 23 ∨ o = 25) ∧ k < 80) ∨ (o = 29 ∧ k < 14) ∨ (o = 34 ∧ k < 28) ∨ (o = 37 ∧ k = 3) ∨ (o = 38 ∧ k < 16) ∨ ((o = 39 ∨ o = 40) ∧ k < 8)
theorem CT_cpy {b2 b1 : Nat} {M M1 M2 : am_M} {t : Tn} (hb : (b1 = 17 ∧ b2 = 59) ∨ (b1 = 59 ∧ b2 = 17)) (h : CT b1 M t) (hg : bdT t) (hw14 : t.wn ≤ 14) (hG8 : t.x.G ≤ 8) (hw : wcs (b2 + 1) (b1 + 1) 11 M M1) (hce : ∀ a, ¬ (b2 + 13 ≤ a ∧ a ≤ b2 + 41) → M2 a = M1 a) (hcc : ∀ o k, tcR t.l.u o k → M2 (b2 + o) k = M1 (b1 + o) k) : CT b2 M2 t := by
  have hl := hg.l
  have hd := hg.d
  have hr := hg.r
  have hp := hg.p
  have hs := hg.s
  have g : ∀ o k, tcR t.l.u o k → M2 (b2 + o) k = M (b1 + o) k := fun o k hk => by
    rw [hcc o k hk, hw.e (b1 + o) (by unfold tcR at hk; omega)]
  refine ⟨CW_of (CW_cpy hw h.w hG8) (fun a h1 h2 => hce a (by omega)), fun k hk => (g 13 k (by unfold tcR; omega)).trans (h.bk k hk), ⟨(g 14 0 (by unfold tcR; omega)).trans h.lw.n, (g 14 1 (by unfold tcR; omega)).trans h.lw.u, fun k hk => (g 15 k (by unfold tcR; omega)).trans (h.lw.w k hk), fun k hk => (g 16 k (by unfold tcR; omega)).trans (h.lw.f k hk), fun k hk => (g 17 k (by unfold tcR; omega)).trans (h.lw.h k hk), fun k hk => (g 18 k (by unfold tcR; omega)).trans (h.lw.t k hk), fun k hk => (g 19 k (by unfold tcR; omega)).trans (h.lw.cs k hk)⟩, ⟨(g 22 1 (by unfold tcR; omega)).trans h.dn.n, fun k hk => (g 23 (5 * k) (by unfold tcR; omega)).trans (h.dn.day k hk), fun k hk => (g 23 (5 * k + 1) (by unfold tcR; omega)).trans (h.dn.kd k hk), fun k hk hk3 => (g 23 (5 * k + 2) (by unfold tcR; omega)).trans (h.dn.wo k hk hk3), fun k hk => (g 23 (5 * k + 3) (by unfold tcR; omega)).trans (h.dn.mn k hk)⟩, ⟨(g 24 1 (by unfold tcR; omega)).trans h.tr.n, fun k hk => (g 25 (5 * k) (by unfold tcR; omega)).trans (h.tr.day k hk), fun k hk => (g 25 (5 * k + 1) (by unfold tcR; omega)).trans (h.tr.wo k hk), fun k hk => (g 25 (5 * k + 2) (by unfold tcR; omega)).trans (h.tr.bu k hk), fun k hk => (g 25 (5 * k + 3) (by unfold tcR; omega)).trans (h.tr.mn k hk), fun k hk => (g 25 (5 * k + 4) (by unfold tcR; omega)).trans (h.tr.gd k hk)⟩, (g 26 1 (by unfold tcR; omega)).trans h.bn, (g 28 1 (by unfold tcR; omega)).trans h.pn, fun k hk => (g 29 k (by unfold tcR; omega)).trans (h.pr k hk), (g 33 1 (by unfold tcR; omega)).trans h.wn, fun k hk => ⟨(g 34 (2 * k) (by unfold tcR; omega)).trans (h.we k hk).1, (g 34 (2 * k + 1) (by unfold tcR; omega)).trans (h.we k hk).2⟩, fun k hk => (g 38 k (by unfold tcR; omega)).trans (h.rt k hk), (g 37 3 (by unfold tcR; omega)).trans h.sn, fun k hk => (g 39 k (by unfold tcR; omega)).trans (h.sw k hk), fun k hk => (g 40 k (by unfold tcR; omega)).trans (h.sv k hk)⟩
theorem t_take {d nS u : Nat} {M : am_M} {Q : Option Value → am_H → Prop} (hu : M 31 1 = nI u) (hu4 : u ≤ 400) (hq : ∀ M1 M2, wcs 60 18 11 M M1 → (∀ a, ¬ (59 + 13 ≤ a ∧ a ≤ 59 + 41) → M2 a = M1 a) → (∀ o k, tcR u o k → M2 (59 + o) k = M1 (17 + o) k) → Q none (hp nS M2)) : am_Wp (d + 5) 101 0 [.ref 59, .ref 17] [] (hp nS M) Q := by
  rw [b_101_0]
  refine w_60_18 (fun M0 hw => ?_)
  rw [am_ans_none, b_101_11]
  have hu0 : M0 31 1 = nI u := by rw [hw.e 31 (by decide)]; exact hu
  have hb : 17 + 42 ≤ 59 ∨ 59 + 42 ≤ 17 := by decide
  have h0 := tcs_0 59 17 M0
  refine tk_row h0 hb 13 600 30 72 (by decide) (by decide) rfl rfl (fun Q => k_30_72) (fun M1 h1 => ?_)
  rw [am_ans_none, b_101_22, b_31i1_0]
  have h2 := tcs_up h1 hb 14 0 31 73 (by decide) (by decide) rfl rfl
  have h3 := tcs_up h2 hb 14 1 31 73 (by decide) (by decide) rfl rfl
  generalize am_up (am_up M1 73 0 (M1 31 0)) 73 1 (am_up M1 73 0 (M1 31 0) 31 1) = M3 at h3 ⊢
  refine tk_row h3 hb 15 16 32 74 (by decide) (by decide) rfl rfl (fun Q => k_32_74) (fun M4 h4 => ?_)
  rw [am_ans_none, b_31i1_27]
  refine tk_row h4 hb 16 16 33 75 (by decide) (by decide) rfl rfl (fun Q => k_33_75) (fun M5 h5 => ?_)
  rw [am_ans_none, b_31i1_38]
  refine tk_row h5 hb 17 16 34 76 (by decide) (by decide) rfl rfl (fun Q => k_34_76) (fun M6 h6 => ?_)
  rw [am_ans_none, b_31i1_49]
  refine tk_row h6 hb 18 16 35 77 (by decide) (by decide) rfl rfl (fun Q => k_35_77) (fun M7 h7 => ?_)
  rw [am_ans_none]
  have hu1 : M7 31 1 = nI u := by rw [tcs_e h7 (a := 31) (by decide)]; exact hu0
  have hu2 : (M7 31 1).toNatClampNeg = u := by rw [hu1, cl_n (by omega)]
  have hu3 : 0 ≤ M7 31 1 ∧ (M7 31 1).toNatClampNeg ≤ 400 ∧ (M7 31 1).toNatClampNeg ≤ 400 := by rw [hu2, hu1]; exact ⟨by rw [li, le_n (by omega) (by omega)]; omega, hu4, hu4⟩
  refine tk_row h7 hb 19 u 36 78 (by decide) (by decide) rfl rfl (fun Q => (by rw [b_31i1_60 hu3, hu2])) (fun M8 h8 => ?_)
  rw [am_ans_none, b_101_33, b_35i3_0]
  refine tk_row h8 hb 23 80 40 82 (by decide) (by decide) rfl rfl (fun Q => k_40_82) (fun M9 h9 => ?_)
  rw [am_ans_none]
  refine tk_up h9 hb 22 1 39 81 (by decide) (by decide) rfl rfl (fun Q => b_35i3_11) (fun M10 h10 => ?_)
  rw [am_ans_none, b_101_44, b_35i4_0]
  refine tk_row h10 hb 25 80 42 84 (by decide) (by decide) rfl rfl (fun Q => k_42_84) (fun M11 h11 => ?_)
  rw [am_ans_none]
  refine tk_up h11 hb 24 1 41 83 (by decide) (by decide) rfl rfl (fun Q => b_35i4_11) (fun M12 h12 => ?_)
  rw [am_ans_none, b_101_55, b_35i5_0]
  refine tk_row h12 hb 27 80 44 86 (by decide) (by decide) rfl rfl (fun Q => k_44_86) (fun M13 h13 => ?_)
  rw [am_ans_none]
  refine tk_up h13 hb 26 1 43 85 (by decide) (by decide) rfl rfl (fun Q => b_35i5_11) (fun M14 h14 => ?_)
  rw [am_ans_none, b_101_66, b_76_0]
  refine tk_row h14 hb 29 14 46 88 (by decide) (by decide) rfl rfl (fun Q => k_46_88) (fun M15 h15 => ?_)
  rw [am_ans_none]
  refine tk_up h15 hb 28 1 45 87 (by decide) (by decide) rfl rfl (fun Q => b_76_11) (fun M16 h16 => ?_)
  rw [am_ans_none, b_101_77, b_18_0]
  refine tk_row h16 hb 34 28 51 93 (by decide) (by decide) rfl rfl (fun Q => k_51_93) (fun M17 h17 => ?_)
  rw [am_ans_none]
  refine tk_up h17 hb 33 1 50 92 (by decide) (by decide) rfl rfl (fun Q => b_18_11) (fun M18 h18 => ?_)
  rw [am_ans_none, b_101_88, b_10_0]
  refine tk_row h18 hb 38 16 55 97 (by decide) (by decide) rfl rfl (fun Q => k_55_97) (fun M19 h19 => ?_)
  rw [am_ans_none, b_10_11]
  refine tk_row h19 hb 39 8 56 98 (by decide) (by decide) rfl rfl (fun Q => k_56_98) (fun M20 h20 => ?_)
  rw [am_ans_none, b_10_22]
  refine tk_row h20 hb 40 8 57 99 (by decide) (by decide) rfl rfl (fun Q => k_57_99) (fun M21 h21 => ?_)
  rw [am_ans_none]
  refine tk_up h21 hb 37 3 54 96 (by decide) (by decide) rfl rfl (fun Q => b_10_33) (fun M22 h22 => ?_)
  rw [am_ans_none, b_101_99]
  refine hq M0 _ hw h22.1 (fun o k hk => ?_)
  have hc := h22.2
  rcases hk with ⟨rfl, hk⟩ | ⟨rfl, hk⟩ | ⟨h1, h2, hk⟩ | ⟨rfl, hk⟩ | ⟨ho, rfl⟩ | ⟨ho, hk⟩ | ⟨rfl, hk⟩ | ⟨rfl, hk⟩ | ⟨rfl, rfl⟩ | ⟨rfl, hk⟩ | ⟨ho, hk⟩
  · exact hc 21 _ (by first | exact Nat.zero_le _ | exact Nat.le_refl _) (by first | exact hk | exact Nat.lt_succ_self _)
  · have : k = 0 ∨ k = 1 := by omega
    rcases this with rfl | rfl
    · exact hc 20 _ (by first | exact Nat.zero_le _ | exact Nat.le_refl _) (by first | exact hk | exact Nat.lt_succ_self _)
    · exact hc 19 _ (by first | exact Nat.zero_le _ | exact Nat.le_refl _) (by first | exact hk | exact Nat.lt_succ_self _)
  · have : o = 15 ∨ o = 16 ∨ o = 17 ∨ o = 18 := by omega
    rcases this with rfl | rfl | rfl | rfl
    · exact hc 18 _ (by first | exact Nat.zero_le _ | exact Nat.le_refl _) (by first | exact hk | exact Nat.lt_succ_self _)
    · exact hc 17 _ (by first | exact Nat.zero_le _ | exact Nat.le_refl _) (by first | exact hk | exact Nat.lt_succ_self _)
    · exact hc 16 _ (by first | exact Nat.zero_le _ | exact Nat.le_refl _) (by first | exact hk | exact Nat.lt_succ_self _)
    · exact hc 15 _ (by first | exact Nat.zero_le _ | exact Nat.le_refl _) (by first | exact hk | exact Nat.lt_succ_self _)
  · exact hc 14 _ (by first | exact Nat.zero_le _ | exact Nat.le_refl _) (by first | exact hk | exact Nat.lt_succ_self _)
  · rcases ho with rfl | rfl | rfl | rfl | rfl
    · exact hc 12 _ (by first | exact Nat.zero_le _ | exact Nat.le_refl _) (by first | exact hk | exact Nat.lt_succ_self _)
    · exact hc 10 _ (by first | exact Nat.zero_le _ | exact Nat.le_refl _) (by first | exact hk | exact Nat.lt_succ_self _)
    · exact hc 8 _ (by first | exact Nat.zero_le _ | exact Nat.le_refl _) (by first | exact hk | exact Nat.lt_succ_self _)
    · exact hc 6 _ (by first | exact Nat.zero_le _ | exact Nat.le_refl _) (by first | exact hk | exact Nat.lt_succ_self _)
    · exact hc 4 _ (by first | exact Nat.zero_le _ | exact Nat.le_refl _) (by first | exact hk | exact Nat.lt_succ_self _)
  · rcases ho with rfl | rfl
    · exact hc 13 _ (by first | exact Nat.zero_le _ | exact Nat.le_refl _) (by first | exact hk | exact Nat.lt_succ_self _)
    · exact hc 11 _ (by first | exact Nat.zero_le _ | exact Nat.le_refl _) (by first | exact hk | exact Nat.lt_succ_self _)
  · exact hc 7 _ (by first | exact Nat.zero_le _ | exact Nat.le_refl _) (by first | exact hk | exact Nat.lt_succ_self _)
  · exact hc 5 _ (by first | exact Nat.zero_le _ | exact Nat.le_refl _) (by first | exact hk | exact Nat.lt_succ_self _)
  · exact hc 0 _ (by first | exact Nat.zero_le _ | exact Nat.le_refl _) (by first | exact hk | exact Nat.lt_succ_self _)
  · exact hc 3 _ (by first | exact Nat.zero_le _ | exact Nat.le_refl _) (by first | exact hk | exact Nat.lt_succ_self _)
  · rcases ho with rfl | rfl
    · exact hc 2 _ (by first | exact Nat.zero_le _ | exact Nat.le_refl _) (by first | exact hk | exact Nat.lt_succ_self _)
    · exact hc 1 _ (by first | exact Nat.zero_le _ | exact Nat.le_refl _) (by first | exact hk | exact Nat.lt_succ_self _)
theorem t_back {d nS u : Nat} {M : am_M} {Q : Option Value → am_H → Prop} (hu : M 73 1 = nI u) (hu4 : u ≤ 400) (hq : ∀ M1 M2, wcs 18 60 11 M M1 → (∀ a, ¬ (17 + 13 ≤ a ∧ a ≤ 17 + 41) → M2 a = M1 a) → (∀ o k, tcR u o k → M2 (17 + o) k = M1 (59 + o) k) → Q none (hp nS M2)) : am_Wp (d + 5) 101 0 [.ref 17, .ref 59] [] (hp nS M) Q := by
  rw [b_101i1_0]
  refine w_18_60 (fun M0 hw => ?_)
  rw [am_ans_none, b_101i1_11]
  have hu0 : M0 73 1 = nI u := by rw [hw.e 73 (by decide)]; exact hu
  have hb : 59 + 42 ≤ 17 ∨ 17 + 42 ≤ 59 := by decide
  have h0 := tcs_0 17 59 M0
  refine tk_row h0 hb 13 600 72 30 (by decide) (by decide) rfl rfl (fun Q => k_72_30) (fun M1 h1 => ?_)
  rw [am_ans_none, b_101i1_22, b_31i2_0]
  have h2 := tcs_up h1 hb 14 0 73 31 (by decide) (by decide) rfl rfl
  have h3 := tcs_up h2 hb 14 1 73 31 (by decide) (by decide) rfl rfl
  generalize am_up (am_up M1 31 0 (M1 73 0)) 31 1 (am_up M1 31 0 (M1 73 0) 73 1) = M3 at h3 ⊢
  refine tk_row h3 hb 15 16 74 32 (by decide) (by decide) rfl rfl (fun Q => k_74_32) (fun M4 h4 => ?_)
  rw [am_ans_none, b_31i2_27]
  refine tk_row h4 hb 16 16 75 33 (by decide) (by decide) rfl rfl (fun Q => k_75_33) (fun M5 h5 => ?_)
  rw [am_ans_none, b_31i2_38]
  refine tk_row h5 hb 17 16 76 34 (by decide) (by decide) rfl rfl (fun Q => k_76_34) (fun M6 h6 => ?_)
  rw [am_ans_none, b_31i2_49]
  refine tk_row h6 hb 18 16 77 35 (by decide) (by decide) rfl rfl (fun Q => k_77_35) (fun M7 h7 => ?_)
  rw [am_ans_none]
  have hu1 : M7 73 1 = nI u := by rw [tcs_e h7 (a := 73) (by decide)]; exact hu0
  have hu2 : (M7 73 1).toNatClampNeg = u := by rw [hu1, cl_n (by omega)]
  have hu3 : 0 ≤ M7 73 1 ∧ (M7 73 1).toNatClampNeg ≤ 400 ∧ (M7 73 1).toNatClampNeg ≤ 400 := by rw [hu2, hu1]; exact ⟨by rw [li, le_n (by omega) (by omega)]; omega, hu4, hu4⟩
  refine tk_row h7 hb 19 u 78 36 (by decide) (by decide) rfl rfl (fun Q => (by rw [b_31i2_60 hu3, hu2])) (fun M8 h8 => ?_)
  rw [am_ans_none, b_101i1_33, b_35i6_0]
  refine tk_row h8 hb 23 80 82 40 (by decide) (by decide) rfl rfl (fun Q => k_82_40) (fun M9 h9 => ?_)
  rw [am_ans_none]
  refine tk_up h9 hb 22 1 81 39 (by decide) (by decide) rfl rfl (fun Q => b_35i6_11) (fun M10 h10 => ?_)
  rw [am_ans_none, b_101i1_44, b_35i7_0]
  refine tk_row h10 hb 25 80 84 42 (by decide) (by decide) rfl rfl (fun Q => k_84_42) (fun M11 h11 => ?_)
  rw [am_ans_none]
  refine tk_up h11 hb 24 1 83 41 (by decide) (by decide) rfl rfl (fun Q => b_35i7_11) (fun M12 h12 => ?_)
  rw [am_ans_none, b_101i1_55, b_35i8_0]
  refine tk_row h12 hb 27 80 86 44 (by decide) (by decide) rfl rfl (fun Q => k_86_44) (fun M13 h13 => ?_)
  rw [am_ans_none]
  refine tk_up h13 hb 26 1 85 43 (by decide) (by decide) rfl rfl (fun Q => b_35i8_11) (fun M14 h14 => ?_)
  rw [am_ans_none, b_101i1_66, b_76i1_0]
  refine tk_row h14 hb 29 14 88 46 (by decide) (by decide) rfl rfl (fun Q => k_88_46) (fun M15 h15 => ?_)
  rw [am_ans_none]
  refine tk_up h15 hb 28 1 87 45 (by decide) (by decide) rfl rfl (fun Q => b_76i1_11) (fun M16 h16 => ?_)
  rw [am_ans_none, b_101i1_77, b_18i1_0]
  refine tk_row h16 hb 34 28 93 51 (by decide) (by decide) rfl rfl (fun Q => k_93_51) (fun M17 h17 => ?_)
  rw [am_ans_none]
  refine tk_up h17 hb 33 1 92 50 (by decide) (by decide) rfl rfl (fun Q => b_18i1_11) (fun M18 h18 => ?_)
  rw [am_ans_none, b_101i1_88, b_10i1_0]
  refine tk_row h18 hb 38 16 97 55 (by decide) (by decide) rfl rfl (fun Q => k_97_55) (fun M19 h19 => ?_)
  rw [am_ans_none, b_10i1_11]
  refine tk_row h19 hb 39 8 98 56 (by decide) (by decide) rfl rfl (fun Q => k_98_56) (fun M20 h20 => ?_)
  rw [am_ans_none, b_10i1_22]
  refine tk_row h20 hb 40 8 99 57 (by decide) (by decide) rfl rfl (fun Q => k_99_57) (fun M21 h21 => ?_)
  rw [am_ans_none]
  refine tk_up h21 hb 37 3 96 54 (by decide) (by decide) rfl rfl (fun Q => b_10i1_33) (fun M22 h22 => ?_)
  rw [am_ans_none, b_101i1_99]
  refine hq M0 _ hw h22.1 (fun o k hk => ?_)
  have hc := h22.2
  rcases hk with ⟨rfl, hk⟩ | ⟨rfl, hk⟩ | ⟨h1, h2, hk⟩ | ⟨rfl, hk⟩ | ⟨ho, rfl⟩ | ⟨ho, hk⟩ | ⟨rfl, hk⟩ | ⟨rfl, hk⟩ | ⟨rfl, rfl⟩ | ⟨rfl, hk⟩ | ⟨ho, hk⟩
  · exact hc 21 _ (by first | exact Nat.zero_le _ | exact Nat.le_refl _) (by first | exact hk | exact Nat.lt_succ_self _)
  · have : k = 0 ∨ k = 1 := by omega
    rcases this with rfl | rfl
    · exact hc 20 _ (by first | exact Nat.zero_le _ | exact Nat.le_refl _) (by first | exact hk | exact Nat.lt_succ_self _)
    · exact hc 19 _ (by first | exact Nat.zero_le _ | exact Nat.le_refl _) (by first | exact hk | exact Nat.lt_succ_self _)
  · have : o = 15 ∨ o = 16 ∨ o = 17 ∨ o = 18 := by omega
    rcases this with rfl | rfl | rfl | rfl
    · exact hc 18 _ (by first | exact Nat.zero_le _ | exact Nat.le_refl _) (by first | exact hk | exact Nat.lt_succ_self _)
    · exact hc 17 _ (by first | exact Nat.zero_le _ | exact Nat.le_refl _) (by first | exact hk | exact Nat.lt_succ_self _)
    · exact hc 16 _ (by first | exact Nat.zero_le _ | exact Nat.le_refl _) (by first | exact hk | exact Nat.lt_succ_self _)
    · exact hc 15 _ (by first | exact Nat.zero_le _ | exact Nat.le_refl _) (by first | exact hk | exact Nat.lt_succ_self _)
  · exact hc 14 _ (by first | exact Nat.zero_le _ | exact Nat.le_refl _) (by first | exact hk | exact Nat.lt_succ_self _)
  · rcases ho with rfl | rfl | rfl | rfl | rfl
    · exact hc 12 _ (by first | exact Nat.zero_le _ | exact Nat.le_refl _) (by first | exact hk | exact Nat.lt_succ_self _)
    · exact hc 10 _ (by first | exact Nat.zero_le _ | exact Nat.le_refl _) (by first | exact hk | exact Nat.lt_succ_self _)
    · exact hc 8 _ (by first | exact Nat.zero_le _ | exact Nat.le_refl _) (by first | exact hk | exact Nat.lt_succ_self _)
    · exact hc 6 _ (by first | exact Nat.zero_le _ | exact Nat.le_refl _) (by first | exact hk | exact Nat.lt_succ_self _)
    · exact hc 4 _ (by first | exact Nat.zero_le _ | exact Nat.le_refl _) (by first | exact hk | exact Nat.lt_succ_self _)
  · rcases ho with rfl | rfl
    · exact hc 13 _ (by first | exact Nat.zero_le _ | exact Nat.le_refl _) (by first | exact hk | exact Nat.lt_succ_self _)
    · exact hc 11 _ (by first | exact Nat.zero_le _ | exact Nat.le_refl _) (by first | exact hk | exact Nat.lt_succ_self _)
  · exact hc 7 _ (by first | exact Nat.zero_le _ | exact Nat.le_refl _) (by first | exact hk | exact Nat.lt_succ_self _)
  · exact hc 5 _ (by first | exact Nat.zero_le _ | exact Nat.le_refl _) (by first | exact hk | exact Nat.lt_succ_self _)
  · exact hc 0 _ (by first | exact Nat.zero_le _ | exact Nat.le_refl _) (by first | exact hk | exact Nat.lt_succ_self _)
  · exact hc 3 _ (by first | exact Nat.zero_le _ | exact Nat.le_refl _) (by first | exact hk | exact Nat.lt_succ_self _)
  · rcases ho with rfl | rfl
    · exact hc 2 _ (by first | exact Nat.zero_le _ | exact Nat.le_refl _) (by first | exact hk | exact Nat.lt_succ_self _)
    · exact hc 1 _ (by first | exact Nat.zero_le _ | exact Nat.le_refl _) (by first | exact hk | exact Nat.lt_succ_self _)
end
