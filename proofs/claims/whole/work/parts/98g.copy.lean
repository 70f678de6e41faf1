section
/-! WORLDS COPIED -/
def wln (i : Nat) : Nat := [7, 6, 6, 6, 6, 6, 8, 8, 8, 10, 10, 80].getD i 0
abbrev wcs (w2 w1 n : Nat) (M0 M : am_M) : Prop := (∀ k, k < 7 → M w2 k = M0 w1 k) ∧ (∀ i k, 1 ≤ i → i ≤ n → k < wln i → M (w2 + i) k = M0 (w1 + i) k) ∧ (∀ a, ¬ (w2 ≤ a ∧ a ≤ w2 + n) → M a = M0 a)
theorem wcs.f {w2 w1 n : Nat} {M0 M : am_M} (zz : wcs w2 w1 n M0 M) : ∀ k, k < 7 → M w2 k = M0 w1 k := zz.1
theorem wcs.r {w2 w1 n : Nat} {M0 M : am_M} (zz : wcs w2 w1 n M0 M) : ∀ i k, 1 ≤ i → i ≤ n → k < wln i → M (w2 + i) k = M0 (w1 + i) k := zz.2.1
theorem wcs.e {w2 w1 n : Nat} {M0 M : am_M} (zz : wcs w2 w1 n M0 M) : ∀ a, ¬ (w2 ≤ a ∧ a ≤ w2 + n) → M a = M0 a := zz.2.2
theorem wcs_0 {w2 w1 : Nat} (h : w2 ≠ w1) (M : am_M) : wcs w2 w1 0 M (am_up (am_up (am_up (am_up (am_up (am_up (am_up M w2 0 (M w1 0)) w2 1 (M w1 1)) w2 2 (M w1 2)) w2 3 (M w1 3)) w2 4 (M w1 4)) w2 5 (M w1 5)) w2 6 (M w1 6)) := by
  refine ⟨fun k hk => ?_, fun i k h1 h2 _ => by omega, fun a ha => ?_⟩
  · have : k = 0 ∨ k = 1 ∨ k = 2 ∨ k = 3 ∨ k = 4 ∨ k = 5 ∨ k = 6 := by omega
    rcases this with rfl | rfl | rfl | rfl | rfl | rfl | rfl <;> simp only [up_same, upd_at] <;> rfl
  · rw [up_ne _ _ _ (by omega), up_ne _ _ _ (by omega), up_ne _ _ _ (by omega), up_ne _ _ _ (by omega), up_ne _ _ _ (by omega), up_ne _ _ _ (by omega), up_ne _ _ _ (by omega)]
theorem wcs_s {w2 w1 n : Nat} {M0 M : am_M} (h : wcs w2 w1 n M0 M) (hn : n < 11) (hw : w1 + 12 ≤ w2 ∨ w2 + 12 ≤ w1) (m a b : Nat) (hm : m = wln (n + 1)) (ha : a = w1 + (n + 1)) (hb : b = w2 + (n + 1)) : wcs w2 w1 (n + 1) M0 (am_row M b (va_cpy (M a) (M b) 0 0 m)) := by
  subst hm ha hb
  refine ⟨fun k hk => ?_, fun i k h1 h2 h3 => ?_, fun a ha => ?_⟩
  · rw [row_ne _ _ (by omega)]; exact h.f k hk
  · by_cases e : i = n + 1
    · subst e
      rw [row_same]
      unfold va_cpy
      rw [if_pos ⟨Nat.zero_le _, by omega⟩, h.e (w1 + (n + 1)) (by omega), show 0 + (k - 0) = k by omega]
    · rw [row_ne _ _ (by omega)]; exact h.r i k h1 (by omega) h3
  · rw [row_ne _ _ (by omega)]; exact h.e a (by omega)
theorem CW_cpy {w2 w1 : Nat} {M0 M : am_M} {x : Cx} {W : Rw} (h : wcs w2 w1 11 M0 M) (hc : CW w1 M0 x W) (hG : x.G ≤ 8) : CW w2 M x W := by
  have l1 : wln 1 = 6 := rfl
  exact ⟨(h.f 0 (by omega)).trans hc.fL, (h.f 1 (by omega)).trans hc.fG, (h.f 2 (by omega)).trans hc.fT, (h.f 3 (by omega)).trans hc.wi, (h.f 4 (by omega)).trans hc.da, (h.f 5 (by omega)).trans hc.dr, (h.f 6 (by omega)).trans hc.wr, fun k hk => (h.r 1 k (by omega) (by omega) hk).trans (hc.vo k hk), fun k hk => (h.r 2 k (by omega) (by omega) hk).trans (hc.he k hk), fun k hk => (h.r 3 k (by omega) (by omega) hk).trans (hc.tp k hk), fun k hk => (h.r 4 k (by omega) (by omega) hk).trans (hc.lo k hk), fun k hk => (h.r 5 k (by omega) (by omega) hk).trans (hc.sc k hk), fun k hk => (h.r 6 k (by omega) (by omega) hk).trans (hc.ba k hk), fun k hk => (h.r 7 k (by omega) (by omega) (show k < 8 by omega)).trans (hc.bb k hk), fun k hk => (h.r 8 k (by omega) (by omega) hk).trans (hc.pr k hk), fun k hk => (h.r 9 k (by omega) (by omega) hk).trans (hc.pu k hk), fun k hk => (h.r 10 k (by omega) (by omega) hk).trans (hc.ru k hk), fun k hk => (h.r 11 k (by omega) (by omega) hk).trans (hc.st k hk)⟩
theorem w_101_18 {d nS : Nat} {M : am_M} {Q : Option Value → am_H → Prop} (hq : ∀ M', wcs 101 18 11 M M' → Q none (hp nS M')) : am_Wp (d + 2) 111 0 [.ref 101, .ref 18] [] (hp nS M) Q := by
  rw [b_111_0]
  have h0 := wcs_0 (w2 := 101) (w1 := 18) (by decide) M
  have e : ∀ (A : am_M) (k : Nat) (v : Int32), am_up A 101 k v 18 = A 18 := fun A k v => up_ne _ _ _ (by decide)
  simp only [e]
  generalize am_up (am_up (am_up (am_up (am_up (am_up (am_up M 101 0 (M 18 0)) 101 1 (M 18 1)) 101 2 (M 18 2)) 101 3 (M 18 3)) 101 4 (M 18 4)) 101 5 (M 18 5)) 101 6 (M 18 6) = M1 at *
  rw [k_19_102, am_ans_none]
  have h1 := wcs_s h0 (by decide) (by decide) 6 19 102 rfl rfl rfl
  generalize am_row M1 102 (va_cpy (M1 19) (M1 102) 0 0 6) = M2 at *
  rw [b_111_67]
  rw [k_20_103, am_ans_none]
  have h2 := wcs_s h1 (by decide) (by decide) 6 20 103 rfl rfl rfl
  generalize am_row M2 103 (va_cpy (M2 20) (M2 103) 0 0 6) = M3 at *
  rw [b_111_78]
  rw [k_21_104, am_ans_none]
  have h3 := wcs_s h2 (by decide) (by decide) 6 21 104 rfl rfl rfl
  generalize am_row M3 104 (va_cpy (M3 21) (M3 104) 0 0 6) = M4 at *
  rw [b_111_89]
  rw [k_22_105, am_ans_none]
  have h4 := wcs_s h3 (by decide) (by decide) 6 22 105 rfl rfl rfl
  generalize am_row M4 105 (va_cpy (M4 22) (M4 105) 0 0 6) = M5 at *
  rw [b_111_100]
  rw [k_23_106, am_ans_none]
  have h5 := wcs_s h4 (by decide) (by decide) 6 23 106 rfl rfl rfl
  generalize am_row M5 106 (va_cpy (M5 23) (M5 106) 0 0 6) = M6 at *
  rw [b_111_111]
  rw [k_24_107, am_ans_none]
  have h6 := wcs_s h5 (by decide) (by decide) 8 24 107 rfl rfl rfl
  generalize am_row M6 107 (va_cpy (M6 24) (M6 107) 0 0 8) = M7 at *
  rw [b_111_122]
  rw [k_25_108, am_ans_none]
  have h7 := wcs_s h6 (by decide) (by decide) 8 25 108 rfl rfl rfl
  generalize am_row M7 108 (va_cpy (M7 25) (M7 108) 0 0 8) = M8 at *
  rw [b_111_133]
  rw [k_26_109, am_ans_none]
  have h8 := wcs_s h7 (by decide) (by decide) 8 26 109 rfl rfl rfl
  generalize am_row M8 109 (va_cpy (M8 26) (M8 109) 0 0 8) = M9 at *
  rw [b_111_144]
  rw [k_27_110, am_ans_none]
  have h9 := wcs_s h8 (by decide) (by decide) 10 27 110 rfl rfl rfl
  generalize am_row M9 110 (va_cpy (M9 27) (M9 110) 0 0 10) = M10 at *
  rw [b_111_155]
  rw [k_28_111, am_ans_none]
  have h10 := wcs_s h9 (by decide) (by decide) 10 28 111 rfl rfl rfl
  generalize am_row M10 111 (va_cpy (M10 28) (M10 111) 0 0 10) = M11 at *
  rw [b_111_166]
  rw [k_29_112, am_ans_none]
  have h11 := wcs_s h10 (by decide) (by decide) 80 29 112 rfl rfl rfl
  generalize am_row M11 112 (va_cpy (M11 29) (M11 112) 0 0 80) = M12 at *
  rw [b_111_177]
  exact hq _ h11
theorem w_175_18 {d nS : Nat} {M : am_M} {Q : Option Value → am_H → Prop} (hq : ∀ M', wcs 175 18 11 M M' → Q none (hp nS M')) : am_Wp (d + 2) 111 0 [.ref 175, .ref 18] [] (hp nS M) Q := by
  rw [b_111i1_0]
  have h0 := wcs_0 (w2 := 175) (w1 := 18) (by decide) M
  have e : ∀ (A : am_M) (k : Nat) (v : Int32), am_up A 175 k v 18 = A 18 := fun A k v => up_ne _ _ _ (by decide)
  simp only [e]
  generalize am_up (am_up (am_up (am_up (am_up (am_up (am_up M 175 0 (M 18 0)) 175 1 (M 18 1)) 175 2 (M 18 2)) 175 3 (M 18 3)) 175 4 (M 18 4)) 175 5 (M 18 5)) 175 6 (M 18 6) = M1 at *
  rw [k_19_176, am_ans_none]
  have h1 := wcs_s h0 (by decide) (by decide) 6 19 176 rfl rfl rfl
  generalize am_row M1 176 (va_cpy (M1 19) (M1 176) 0 0 6) = M2 at *
  rw [b_111i1_67]
  rw [k_20_177, am_ans_none]
  have h2 := wcs_s h1 (by decide) (by decide) 6 20 177 rfl rfl rfl
  generalize am_row M2 177 (va_cpy (M2 20) (M2 177) 0 0 6) = M3 at *
  rw [b_111i1_78]
  rw [k_21_178, am_ans_none]
  have h3 := wcs_s h2 (by decide) (by decide) 6 21 178 rfl rfl rfl
  generalize am_row M3 178 (va_cpy (M3 21) (M3 178) 0 0 6) = M4 at *
  rw [b_111i1_89]
  rw [k_22_179, am_ans_none]
  have h4 := wcs_s h3 (by decide) (by decide) 6 22 179 rfl rfl rfl
  generalize am_row M4 179 (va_cpy (M4 22) (M4 179) 0 0 6) = M5 at *
  rw [b_111i1_100]
  rw [k_23_180, am_ans_none]
  have h5 := wcs_s h4 (by decide) (by decide) 6 23 180 rfl rfl rfl
  generalize am_row M5 180 (va_cpy (M5 23) (M5 180) 0 0 6) = M6 at *
  rw [b_111i1_111]
  rw [k_24_181, am_ans_none]
  have h6 := wcs_s h5 (by decide) (by decide) 8 24 181 rfl rfl rfl
  generalize am_row M6 181 (va_cpy (M6 24) (M6 181) 0 0 8) = M7 at *
  rw [b_111i1_122]
  rw [k_25_182, am_ans_none]
  have h7 := wcs_s h6 (by decide) (by decide) 8 25 182 rfl rfl rfl
  generalize am_row M7 182 (va_cpy (M7 25) (M7 182) 0 0 8) = M8 at *
  rw [b_111i1_133]
  rw [k_26_183, am_ans_none]
  have h8 := wcs_s h7 (by decide) (by decide) 8 26 183 rfl rfl rfl
  generalize am_row M8 183 (va_cpy (M8 26) (M8 183) 0 0 8) = M9 at *
  rw [b_111i1_144]
  rw [k_27_184, am_ans_none]
  have h9 := wcs_s h8 (by decide) (by decide) 10 27 184 rfl rfl rfl
  generalize am_row M9 184 (va_cpy (M9 27) (M9 184) 0 0 10) = M10 at *
  rw [b_111i1_155]
  rw [k_28_185, am_ans_none]
  have h10 := wcs_s h9 (by decide) (by decide) 10 28 185 rfl rfl rfl
  generalize am_row M10 185 (va_cpy (M10 28) (M10 185) 0 0 10) = M11 at *
  rw [b_111i1_166]
  rw [k_29_186, am_ans_none]
  have h11 := wcs_s h10 (by decide) (by decide) 80 29 186 rfl rfl rfl
  generalize am_row M11 186 (va_cpy (M11 29) (M11 186) 0 0 80) = M12 at *
  rw [b_111i1_177]
  exact hq _ h11
theorem w_163_18 {d nS : Nat} {M : am_M} {Q : Option Value → am_H → Prop} (hq : ∀ M', wcs 163 18 11 M M' → Q none (hp nS M')) : am_Wp (d + 2) 111 0 [.ref 163, .ref 18] [] (hp nS M) Q := by
  rw [b_111i2_0]
  have h0 := wcs_0 (w2 := 163) (w1 := 18) (by decide) M
  have e : ∀ (A : am_M) (k : Nat) (v : Int32), am_up A 163 k v 18 = A 18 := fun A k v => up_ne _ _ _ (by decide)
  simp only [e]
  generalize am_up (am_up (am_up (am_up (am_up (am_up (am_up M 163 0 (M 18 0)) 163 1 (M 18 1)) 163 2 (M 18 2)) 163 3 (M 18 3)) 163 4 (M 18 4)) 163 5 (M 18 5)) 163 6 (M 18 6) = M1 at *
  rw [k_19_164, am_ans_none]
  have h1 := wcs_s h0 (by decide) (by decide) 6 19 164 rfl rfl rfl
  generalize am_row M1 164 (va_cpy (M1 19) (M1 164) 0 0 6) = M2 at *
  rw [b_111i2_67]
  rw [k_20_165, am_ans_none]
  have h2 := wcs_s h1 (by decide) (by decide) 6 20 165 rfl rfl rfl
  generalize am_row M2 165 (va_cpy (M2 20) (M2 165) 0 0 6) = M3 at *
  rw [b_111i2_78]
  rw [k_21_166, am_ans_none]
  have h3 := wcs_s h2 (by decide) (by decide) 6 21 166 rfl rfl rfl
  generalize am_row M3 166 (va_cpy (M3 21) (M3 166) 0 0 6) = M4 at *
  rw [b_111i2_89]
  rw [k_22_167, am_ans_none]
  have h4 := wcs_s h3 (by decide) (by decide) 6 22 167 rfl rfl rfl
  generalize am_row M4 167 (va_cpy (M4 22) (M4 167) 0 0 6) = M5 at *
  rw [b_111i2_100]
  rw [k_23_168, am_ans_none]
  have h5 := wcs_s h4 (by decide) (by decide) 6 23 168 rfl rfl rfl
  generalize am_row M5 168 (va_cpy (M5 23) (M5 168) 0 0 6) = M6 at *
  rw [b_111i2_111]
  rw [k_24_169, am_ans_none]
  have h6 := wcs_s h5 (by decide) (by decide) 8 24 169 rfl rfl rfl
  generalize am_row M6 169 (va_cpy (M6 24) (M6 169) 0 0 8) = M7 at *
  rw [b_111i2_122]
  rw [k_25_170, am_ans_none]
  have h7 := wcs_s h6 (by decide) (by decide) 8 25 170 rfl rfl rfl
  generalize am_row M7 170 (va_cpy (M7 25) (M7 170) 0 0 8) = M8 at *
  rw [b_111i2_133]
  rw [k_26_171, am_ans_none]
  have h8 := wcs_s h7 (by decide) (by decide) 8 26 171 rfl rfl rfl
  generalize am_row M8 171 (va_cpy (M8 26) (M8 171) 0 0 8) = M9 at *
  rw [b_111i2_144]
  rw [k_27_172, am_ans_none]
  have h9 := wcs_s h8 (by decide) (by decide) 10 27 172 rfl rfl rfl
  generalize am_row M9 172 (va_cpy (M9 27) (M9 172) 0 0 10) = M10 at *
  rw [b_111i2_155]
  rw [k_28_173, am_ans_none]
  have h10 := wcs_s h9 (by decide) (by decide) 10 28 173 rfl rfl rfl
  generalize am_row M10 173 (va_cpy (M10 28) (M10 173) 0 0 10) = M11 at *
  rw [b_111i2_166]
  rw [k_29_174, am_ans_none]
  have h11 := wcs_s h10 (by decide) (by decide) 80 29 174 rfl rfl rfl
  generalize am_row M11 174 (va_cpy (M11 29) (M11 174) 0 0 80) = M12 at *
  rw [b_111i2_177]
  exact hq _ h11
theorem w_151_18 {d nS : Nat} {M : am_M} {Q : Option Value → am_H → Prop} (hq : ∀ M', wcs 151 18 11 M M' → Q none (hp nS M')) : am_Wp (d + 2) 111 0 [.ref 151, .ref 18] [] (hp nS M) Q := by
  rw [b_111i3_0]
  have h0 := wcs_0 (w2 := 151) (w1 := 18) (by decide) M
  have e : ∀ (A : am_M) (k : Nat) (v : Int32), am_up A 151 k v 18 = A 18 := fun A k v => up_ne _ _ _ (by decide)
  simp only [e]
  generalize am_up (am_up (am_up (am_up (am_up (am_up (am_up M 151 0 (M 18 0)) 151 1 (M 18 1)) 151 2 (M 18 2)) 151 3 (M 18 3)) 151 4 (M 18 4)) 151 5 (M 18 5)) 151 6 (M 18 6) = M1 at *
  rw [k_19_152, am_ans_none]
  have h1 := wcs_s h0 (by decide) (by decide) 6 19 152 rfl rfl rfl
  generalize am_row M1 152 (va_cpy (M1 19) (M1 152) 0 0 6) = M2 at *
  rw [b_111i3_67]
  rw [k_20_153, am_ans_none]
  have h2 := wcs_s h1 (by decide) (by decide) 6 20 153 rfl rfl rfl
  generalize am_row M2 153 (va_cpy (M2 20) (M2 153) 0 0 6) = M3 at *
  rw [b_111i3_78]
  rw [k_21_154, am_ans_none]
  have h3 := wcs_s h2 (by decide) (by decide) 6 21 154 rfl rfl rfl
  generalize am_row M3 154 (va_cpy (M3 21) (M3 154) 0 0 6) = M4 at *
  rw [b_111i3_89]
  rw [k_22_155, am_ans_none]
  have h4 := wcs_s h3 (by decide) (by decide) 6 22 155 rfl rfl rfl
  generalize am_row M4 155 (va_cpy (M4 22) (M4 155) 0 0 6) = M5 at *
  rw [b_111i3_100]
  rw [k_23_156, am_ans_none]
  have h5 := wcs_s h4 (by decide) (by decide) 6 23 156 rfl rfl rfl
  generalize am_row M5 156 (va_cpy (M5 23) (M5 156) 0 0 6) = M6 at *
  rw [b_111i3_111]
  rw [k_24_157, am_ans_none]
  have h6 := wcs_s h5 (by decide) (by decide) 8 24 157 rfl rfl rfl
  generalize am_row M6 157 (va_cpy (M6 24) (M6 157) 0 0 8) = M7 at *
  rw [b_111i3_122]
  rw [k_25_158, am_ans_none]
  have h7 := wcs_s h6 (by decide) (by decide) 8 25 158 rfl rfl rfl
  generalize am_row M7 158 (va_cpy (M7 25) (M7 158) 0 0 8) = M8 at *
  rw [b_111i3_133]
  rw [k_26_159, am_ans_none]
  have h8 := wcs_s h7 (by decide) (by decide) 8 26 159 rfl rfl rfl
  generalize am_row M8 159 (va_cpy (M8 26) (M8 159) 0 0 8) = M9 at *
  rw [b_111i3_144]
  rw [k_27_160, am_ans_none]
  have h9 := wcs_s h8 (by decide) (by decide) 10 27 160 rfl rfl rfl
  generalize am_row M9 160 (va_cpy (M9 27) (M9 160) 0 0 10) = M10 at *
  rw [b_111i3_155]
  rw [k_28_161, am_ans_none]
  have h10 := wcs_s h9 (by decide) (by decide) 10 28 161 rfl rfl rfl
  generalize am_row M10 161 (va_cpy (M10 28) (M10 161) 0 0 10) = M11 at *
  rw [b_111i3_166]
  rw [k_29_162, am_ans_none]
  have h11 := wcs_s h10 (by decide) (by decide) 80 29 162 rfl rfl rfl
  generalize am_row M11 162 (va_cpy (M11 29) (M11 162) 0 0 80) = M12 at *
  rw [b_111i3_177]
  exact hq _ h11
theorem w_139_18 {d nS : Nat} {M : am_M} {Q : Option Value → am_H → Prop} (hq : ∀ M', wcs 139 18 11 M M' → Q none (hp nS M')) : am_Wp (d + 2) 111 0 [.ref 139, .ref 18] [] (hp nS M) Q := by
  rw [b_111i4_0]
  have h0 := wcs_0 (w2 := 139) (w1 := 18) (by decide) M
  have e : ∀ (A : am_M) (k : Nat) (v : Int32), am_up A 139 k v 18 = A 18 := fun A k v => up_ne _ _ _ (by decide)
  simp only [e]
  generalize am_up (am_up (am_up (am_up (am_up (am_up (am_up M 139 0 (M 18 0)) 139 1 (M 18 1)) 139 2 (M 18 2)) 139 3 (M 18 3)) 139 4 (M 18 4)) 139 5 (M 18 5)) 139 6 (M 18 6) = M1 at *
  rw [k_19_140, am_ans_none]
  have h1 := wcs_s h0 (by decide) (by decide) 6 19 140 rfl rfl rfl
  generalize am_row M1 140 (va_cpy (M1 19) (M1 140) 0 0 6) = M2 at *
  rw [b_111i4_67]
  rw [k_20_141, am_ans_none]
  have h2 := wcs_s h1 (by decide) (by decide) 6 20 141 rfl rfl rfl
  generalize am_row M2 141 (va_cpy (M2 20) (M2 141) 0 0 6) = M3 at *
  rw [b_111i4_78]
  rw [k_21_142, am_ans_none]
  have h3 := wcs_s h2 (by decide) (by decide) 6 21 142 rfl rfl rfl
  generalize am_row M3 142 (va_cpy (M3 21) (M3 142) 0 0 6) = M4 at *
  rw [b_111i4_89]
  rw [k_22_143, am_ans_none]
  have h4 := wcs_s h3 (by decide) (by decide) 6 22 143 rfl rfl rfl
  generalize am_row M4 143 (va_cpy (M4 22) (M4 143) 0 0 6) = M5 at *
  rw [b_111i4_100]
  rw [k_23_144, am_ans_none]
  have h5 := wcs_s h4 (by decide) (by decide) 6 23 144 rfl rfl rfl
  generalize am_row M5 144 (va_cpy (M5 23) (M5 144) 0 0 6) = M6 at *
  rw [b_111i4_111]
  rw [k_24_145, am_ans_none]
  have h6 := wcs_s h5 (by decide) (by decide) 8 24 145 rfl rfl rfl
  generalize am_row M6 145 (va_cpy (M6 24) (M6 145) 0 0 8) = M7 at *
  rw [b_111i4_122]
  rw [k_25_146, am_ans_none]
  have h7 := wcs_s h6 (by decide) (by decide) 8 25 146 rfl rfl rfl
  generalize am_row M7 146 (va_cpy (M7 25) (M7 146) 0 0 8) = M8 at *
  rw [b_111i4_133]
  rw [k_26_147, am_ans_none]
  have h8 := wcs_s h7 (by decide) (by decide) 8 26 147 rfl rfl rfl
  generalize am_row M8 147 (va_cpy (M8 26) (M8 147) 0 0 8) = M9 at *
  rw [b_111i4_144]
  rw [k_27_148, am_ans_none]
  have h9 := wcs_s h8 (by decide) (by decide) 10 27 148 rfl rfl rfl
  generalize am_row M9 148 (va_cpy (M9 27) (M9 148) 0 0 10) = M10 at *
  rw [b_111i4_155]
  rw [k_28_149, am_ans_none]
  have h10 := wcs_s h9 (by decide) (by decide) 10 28 149 rfl rfl rfl
  generalize am_row M10 149 (va_cpy (M10 28) (M10 149) 0 0 10) = M11 at *
  rw [b_111i4_166]
  rw [k_29_150, am_ans_none]
  have h11 := wcs_s h10 (by decide) (by decide) 80 29 150 rfl rfl rfl
  generalize am_row M11 150 (va_cpy (M11 29) (M11 150) 0 0 80) = M12 at *
  rw [b_111i4_177]
  exact hq _ h11
theorem w_127_18 {d nS : Nat} {M : am_M} {Q : Option Value → am_H → Prop} (hq : ∀ M', wcs 127 18 11 M M' → Q none (hp nS M')) : am_Wp (d + 2) 111 0 [.ref 127, .ref 18] [] (hp nS M) Q := by
  rw [b_111i5_0]
  have h0 := wcs_0 (w2 := 127) (w1 := 18) (by decide) M
  have e : ∀ (A : am_M) (k : Nat) (v : Int32), am_up A 127 k v 18 = A 18 := fun A k v => up_ne _ _ _ (by decide)
  simp only [e]
  generalize am_up (am_up (am_up (am_up (am_up (am_up (am_up M 127 0 (M 18 0)) 127 1 (M 18 1)) 127 2 (M 18 2)) 127 3 (M 18 3)) 127 4 (M 18 4)) 127 5 (M 18 5)) 127 6 (M 18 6) = M1 at *
  rw [k_19_128, am_ans_none]
  have h1 := wcs_s h0 (by decide) (by decide) 6 19 128 rfl rfl rfl
  generalize am_row M1 128 (va_cpy (M1 19) (M1 128) 0 0 6) = M2 at *
  rw [b_111i5_67]
  rw [k_20_129, am_ans_none]
  have h2 := wcs_s h1 (by decide) (by decide) 6 20 129 rfl rfl rfl
  generalize am_row M2 129 (va_cpy (M2 20) (M2 129) 0 0 6) = M3 at *
  rw [b_111i5_78]
  rw [k_21_130, am_ans_none]
  have h3 := wcs_s h2 (by decide) (by decide) 6 21 130 rfl rfl rfl
  generalize am_row M3 130 (va_cpy (M3 21) (M3 130) 0 0 6) = M4 at *
  rw [b_111i5_89]
  rw [k_22_131, am_ans_none]
  have h4 := wcs_s h3 (by decide) (by decide) 6 22 131 rfl rfl rfl
  generalize am_row M4 131 (va_cpy (M4 22) (M4 131) 0 0 6) = M5 at *
  rw [b_111i5_100]
  rw [k_23_132, am_ans_none]
  have h5 := wcs_s h4 (by decide) (by decide) 6 23 132 rfl rfl rfl
  generalize am_row M5 132 (va_cpy (M5 23) (M5 132) 0 0 6) = M6 at *
  rw [b_111i5_111]
  rw [k_24_133, am_ans_none]
  have h6 := wcs_s h5 (by decide) (by decide) 8 24 133 rfl rfl rfl
  generalize am_row M6 133 (va_cpy (M6 24) (M6 133) 0 0 8) = M7 at *
  rw [b_111i5_122]
  rw [k_25_134, am_ans_none]
  have h7 := wcs_s h6 (by decide) (by decide) 8 25 134 rfl rfl rfl
  generalize am_row M7 134 (va_cpy (M7 25) (M7 134) 0 0 8) = M8 at *
  rw [b_111i5_133]
  rw [k_26_135, am_ans_none]
  have h8 := wcs_s h7 (by decide) (by decide) 8 26 135 rfl rfl rfl
  generalize am_row M8 135 (va_cpy (M8 26) (M8 135) 0 0 8) = M9 at *
  rw [b_111i5_144]
  rw [k_27_136, am_ans_none]
  have h9 := wcs_s h8 (by decide) (by decide) 10 27 136 rfl rfl rfl
  generalize am_row M9 136 (va_cpy (M9 27) (M9 136) 0 0 10) = M10 at *
  rw [b_111i5_155]
  rw [k_28_137, am_ans_none]
  have h10 := wcs_s h9 (by decide) (by decide) 10 28 137 rfl rfl rfl
  generalize am_row M10 137 (va_cpy (M10 28) (M10 137) 0 0 10) = M11 at *
  rw [b_111i5_166]
  rw [k_29_138, am_ans_none]
  have h11 := wcs_s h10 (by decide) (by decide) 80 29 138 rfl rfl rfl
  generalize am_row M11 138 (va_cpy (M11 29) (M11 138) 0 0 80) = M12 at *
  rw [b_111i5_177]
  exact hq _ h11
theorem w_115_18 {d nS : Nat} {M : am_M} {Q : Option Value → am_H → Prop} (hq : ∀ M', wcs 115 18 11 M M' → Q none (hp nS M')) : am_Wp (d + 2) 111 0 [.ref 115, .ref 18] [] (hp nS M) Q := by
  rw [b_111i6_0]
  have h0 := wcs_0 (w2 := 115) (w1 := 18) (by decide) M
  have e : ∀ (A : am_M) (k : Nat) (v : Int32), am_up A 115 k v 18 = A 18 := fun A k v => up_ne _ _ _ (by decide)
  simp only [e]
  generalize am_up (am_up (am_up (am_up (am_up (am_up (am_up M 115 0 (M 18 0)) 115 1 (M 18 1)) 115 2 (M 18 2)) 115 3 (M 18 3)) 115 4 (M 18 4)) 115 5 (M 18 5)) 115 6 (M 18 6) = M1 at *
  rw [k_19_116, am_ans_none]
  have h1 := wcs_s h0 (by decide) (by decide) 6 19 116 rfl rfl rfl
  generalize am_row M1 116 (va_cpy (M1 19) (M1 116) 0 0 6) = M2 at *
  rw [b_111i6_67]
  rw [k_20_117, am_ans_none]
  have h2 := wcs_s h1 (by decide) (by decide) 6 20 117 rfl rfl rfl
  generalize am_row M2 117 (va_cpy (M2 20) (M2 117) 0 0 6) = M3 at *
  rw [b_111i6_78]
  rw [k_21_118, am_ans_none]
  have h3 := wcs_s h2 (by decide) (by decide) 6 21 118 rfl rfl rfl
  generalize am_row M3 118 (va_cpy (M3 21) (M3 118) 0 0 6) = M4 at *
  rw [b_111i6_89]
  rw [k_22_119, am_ans_none]
  have h4 := wcs_s h3 (by decide) (by decide) 6 22 119 rfl rfl rfl
  generalize am_row M4 119 (va_cpy (M4 22) (M4 119) 0 0 6) = M5 at *
  rw [b_111i6_100]
  rw [k_23_120, am_ans_none]
  have h5 := wcs_s h4 (by decide) (by decide) 6 23 120 rfl rfl rfl
  generalize am_row M5 120 (va_cpy (M5 23) (M5 120) 0 0 6) = M6 at *
  rw [b_111i6_111]
  rw [k_24_121, am_ans_none]
  have h6 := wcs_s h5 (by decide) (by decide) 8 24 121 rfl rfl rfl
  generalize am_row M6 121 (va_cpy (M6 24) (M6 121) 0 0 8) = M7 at *
  rw [b_111i6_122]
  rw [k_25_122, am_ans_none]
  have h7 := wcs_s h6 (by decide) (by decide) 8 25 122 rfl rfl rfl
  generalize am_row M7 122 (va_cpy (M7 25) (M7 122) 0 0 8) = M8 at *
  rw [b_111i6_133]
  rw [k_26_123, am_ans_none]
  have h8 := wcs_s h7 (by decide) (by decide) 8 26 123 rfl rfl rfl
  generalize am_row M8 123 (va_cpy (M8 26) (M8 123) 0 0 8) = M9 at *
  rw [b_111i6_144]
  rw [k_27_124, am_ans_none]
  have h9 := wcs_s h8 (by decide) (by decide) 10 27 124 rfl rfl rfl
  generalize am_row M9 124 (va_cpy (M9 27) (M9 124) 0 0 10) = M10 at *
  rw [b_111i6_155]
  rw [k_28_125, am_ans_none]
  have h10 := wcs_s h9 (by decide) (by decide) 10 28 125 rfl rfl rfl
  generalize am_row M10 125 (va_cpy (M10 28) (M10 125) 0 0 10) = M11 at *
  rw [b_111i6_166]
  rw [k_29_126, am_ans_none]
  have h11 := wcs_s h10 (by decide) (by decide) 80 29 126 rfl rfl rfl
  generalize am_row M11 126 (va_cpy (M11 29) (M11 126) 0 0 80) = M12 at *
  rw [b_111i6_177]
  exact hq _ h11
theorem w_18_175 {d nS : Nat} {M : am_M} {Q : Option Value → am_H → Prop} (hq : ∀ M', wcs 18 175 11 M M' → Q none (hp nS M')) : am_Wp (d + 2) 111 0 [.ref 18, .ref 175] [] (hp nS M) Q := by
  rw [b_111i7_0]
  have h0 := wcs_0 (w2 := 18) (w1 := 175) (by decide) M
  have e : ∀ (A : am_M) (k : Nat) (v : Int32), am_up A 18 k v 175 = A 175 := fun A k v => up_ne _ _ _ (by decide)
  simp only [e]
  generalize am_up (am_up (am_up (am_up (am_up (am_up (am_up M 18 0 (M 175 0)) 18 1 (M 175 1)) 18 2 (M 175 2)) 18 3 (M 175 3)) 18 4 (M 175 4)) 18 5 (M 175 5)) 18 6 (M 175 6) = M1 at *
  rw [k_176_19, am_ans_none]
  have h1 := wcs_s h0 (by decide) (by decide) 6 176 19 rfl rfl rfl
  generalize am_row M1 19 (va_cpy (M1 176) (M1 19) 0 0 6) = M2 at *
  rw [b_111i7_67]
  rw [k_177_20, am_ans_none]
  have h2 := wcs_s h1 (by decide) (by decide) 6 177 20 rfl rfl rfl
  generalize am_row M2 20 (va_cpy (M2 177) (M2 20) 0 0 6) = M3 at *
  rw [b_111i7_78]
  rw [k_178_21, am_ans_none]
  have h3 := wcs_s h2 (by decide) (by decide) 6 178 21 rfl rfl rfl
  generalize am_row M3 21 (va_cpy (M3 178) (M3 21) 0 0 6) = M4 at *
  rw [b_111i7_89]
  rw [k_179_22, am_ans_none]
  have h4 := wcs_s h3 (by decide) (by decide) 6 179 22 rfl rfl rfl
  generalize am_row M4 22 (va_cpy (M4 179) (M4 22) 0 0 6) = M5 at *
  rw [b_111i7_100]
  rw [k_180_23, am_ans_none]
  have h5 := wcs_s h4 (by decide) (by decide) 6 180 23 rfl rfl rfl
  generalize am_row M5 23 (va_cpy (M5 180) (M5 23) 0 0 6) = M6 at *
  rw [b_111i7_111]
  rw [k_181_24, am_ans_none]
  have h6 := wcs_s h5 (by decide) (by decide) 8 181 24 rfl rfl rfl
  generalize am_row M6 24 (va_cpy (M6 181) (M6 24) 0 0 8) = M7 at *
  rw [b_111i7_122]
  rw [k_182_25, am_ans_none]
  have h7 := wcs_s h6 (by decide) (by decide) 8 182 25 rfl rfl rfl
  generalize am_row M7 25 (va_cpy (M7 182) (M7 25) 0 0 8) = M8 at *
  rw [b_111i7_133]
  rw [k_183_26, am_ans_none]
  have h8 := wcs_s h7 (by decide) (by decide) 8 183 26 rfl rfl rfl
  generalize am_row M8 26 (va_cpy (M8 183) (M8 26) 0 0 8) = M9 at *
  rw [b_111i7_144]
  rw [k_184_27, am_ans_none]
  have h9 := wcs_s h8 (by decide) (by decide) 10 184 27 rfl rfl rfl
  generalize am_row M9 27 (va_cpy (M9 184) (M9 27) 0 0 10) = M10 at *
  rw [b_111i7_155]
  rw [k_185_28, am_ans_none]
  have h10 := wcs_s h9 (by decide) (by decide) 10 185 28 rfl rfl rfl
  generalize am_row M10 28 (va_cpy (M10 185) (M10 28) 0 0 10) = M11 at *
  rw [b_111i7_166]
  rw [k_186_29, am_ans_none]
  have h11 := wcs_s h10 (by decide) (by decide) 80 186 29 rfl rfl rfl
  generalize am_row M11 29 (va_cpy (M11 186) (M11 29) 0 0 80) = M12 at *
  rw [b_111i7_177]
  exact hq _ h11
theorem w_18_163 {d nS : Nat} {M : am_M} {Q : Option Value → am_H → Prop} (hq : ∀ M', wcs 18 163 11 M M' → Q none (hp nS M')) : am_Wp (d + 2) 111 0 [.ref 18, .ref 163] [] (hp nS M) Q := by
  rw [b_111i8_0]
  have h0 := wcs_0 (w2 := 18) (w1 := 163) (by decide) M
  have e : ∀ (A : am_M) (k : Nat) (v : Int32), am_up A 18 k v 163 = A 163 := fun A k v => up_ne _ _ _ (by decide)
  simp only [e]
  generalize am_up (am_up (am_up (am_up (am_up (am_up (am_up M 18 0 (M 163 0)) 18 1 (M 163 1)) 18 2 (M 163 2)) 18 3 (M 163 3)) 18 4 (M 163 4)) 18 5 (M 163 5)) 18 6 (M 163 6) = M1 at *
  rw [k_164_19, am_ans_none]
  have h1 := wcs_s h0 (by decide) (by decide) 6 164 19 rfl rfl rfl
  generalize am_row M1 19 (va_cpy (M1 164) (M1 19) 0 0 6) = M2 at *
  rw [b_111i8_67]
  rw [k_165_20, am_ans_none]
  have h2 := wcs_s h1 (by decide) (by decide) 6 165 20 rfl rfl rfl
  generalize am_row M2 20 (va_cpy (M2 165) (M2 20) 0 0 6) = M3 at *
  rw [b_111i8_78]
  rw [k_166_21, am_ans_none]
  have h3 := wcs_s h2 (by decide) (by decide) 6 166 21 rfl rfl rfl
  generalize am_row M3 21 (va_cpy (M3 166) (M3 21) 0 0 6) = M4 at *
  rw [b_111i8_89]
  rw [k_167_22, am_ans_none]
  have h4 := wcs_s h3 (by decide) (by decide) 6 167 22 rfl rfl rfl
  generalize am_row M4 22 (va_cpy (M4 167) (M4 22) 0 0 6) = M5 at *
  rw [b_111i8_100]
  rw [k_168_23, am_ans_none]
  have h5 := wcs_s h4 (by decide) (by decide) 6 168 23 rfl rfl rfl
  generalize am_row M5 23 (va_cpy (M5 168) (M5 23) 0 0 6) = M6 at *
  rw [b_111i8_111]
  rw [k_169_24, am_ans_none]
  have h6 := wcs_s h5 (by decide) (by decide) 8 169 24 rfl rfl rfl
  generalize am_row M6 24 (va_cpy (M6 169) (M6 24) 0 0 8) = M7 at *
  rw [b_111i8_122]
  rw [k_170_25, am_ans_none]
  have h7 := wcs_s h6 (by decide) (by decide) 8 170 25 rfl rfl rfl
  generalize am_row M7 25 (va_cpy (M7 170) (M7 25) 0 0 8) = M8 at *
  rw [b_111i8_133]
  rw [k_171_26, am_ans_none]
  have h8 := wcs_s h7 (by decide) (by decide) 8 171 26 rfl rfl rfl
  generalize am_row M8 26 (va_cpy (M8 171) (M8 26) 0 0 8) = M9 at *
  rw [b_111i8_144]
  rw [k_172_27, am_ans_none]
  have h9 := wcs_s h8 (by decide) (by decide) 10 172 27 rfl rfl rfl
  generalize am_row M9 27 (va_cpy (M9 172) (M9 27) 0 0 10) = M10 at *
  rw [b_111i8_155]
  rw [k_173_28, am_ans_none]
  have h10 := wcs_s h9 (by decide) (by decide) 10 173 28 rfl rfl rfl
  generalize am_row M10 28 (va_cpy (M10 173) (M10 28) 0 0 10) = M11 at *
  rw [b_111i8_166]
  rw [k_174_29, am_ans_none]
  have h11 := wcs_s h10 (by decide) (by decide) 80 174 29 rfl rfl rfl
  generalize am_row M11 29 (va_cpy (M11 174) (M11 29) 0 0 80) = M12 at *
  rw [b_111i8_177]
  exact hq _ h11
theorem w_18_151 {d nS : Nat} {M : am_M} {Q : Option Value → am_H → Prop} (hq : ∀ M', wcs 18 151 11 M M' → Q none (hp nS M')) : am_Wp (d + 2) 111 0 [.ref 18, .ref 151] [] (hp nS M) Q := by
  rw [b_111i9_0]
  have h0 := wcs_0 (w2 := 18) (w1 := 151) (by decide) M
  have e : ∀ (A : am_M) (k : Nat) (v : Int32), am_up A 18 k v 151 = A 151 := fun A k v => up_ne _ _ _ (by decide)
  simp only [e]
  generalize am_up (am_up (am_up (am_up (am_up (am_up (am_up M 18 0 (M 151 0)) 18 1 (M 151 1)) 18 2 (M 151 2)) 18 3 (M 151 3)) 18 4 (M 151 4)) 18 5 (M 151 5)) 18 6 (M 151 6) = M1 at *
  rw [k_152_19, am_ans_none]
  have h1 := wcs_s h0 (by decide) (by decide) 6 152 19 rfl rfl rfl
  generalize am_row M1 19 (va_cpy (M1 152) (M1 19) 0 0 6) = M2 at *
  rw [b_111i9_67]
  rw [k_153_20, am_ans_none]
  have h2 := wcs_s h1 (by decide) (by decide) 6 153 20 rfl rfl rfl
  generalize am_row M2 20 (va_cpy (M2 153) (M2 20) 0 0 6) = M3 at *
  rw [b_111i9_78]
  rw [k_154_21, am_ans_none]
  have h3 := wcs_s h2 (by decide) (by decide) 6 154 21 rfl rfl rfl
  generalize am_row M3 21 (va_cpy (M3 154) (M3 21) 0 0 6) = M4 at *
  rw [b_111i9_89]
  rw [k_155_22, am_ans_none]
  have h4 := wcs_s h3 (by decide) (by decide) 6 155 22 rfl rfl rfl
  generalize am_row M4 22 (va_cpy (M4 155) (M4 22) 0 0 6) = M5 at *
  rw [b_111i9_100]
  rw [k_156_23, am_ans_none]
  have h5 := wcs_s h4 (by decide) (by decide) 6 156 23 rfl rfl rfl
  generalize am_row M5 23 (va_cpy (M5 156) (M5 23) 0 0 6) = M6 at *
  rw [b_111i9_111]
  rw [k_157_24, am_ans_none]
  have h6 := wcs_s h5 (by decide) (by decide) 8 157 24 rfl rfl rfl
  generalize am_row M6 24 (va_cpy (M6 157) (M6 24) 0 0 8) = M7 at *
  rw [b_111i9_122]
  rw [k_158_25, am_ans_none]
  have h7 := wcs_s h6 (by decide) (by decide) 8 158 25 rfl rfl rfl
  generalize am_row M7 25 (va_cpy (M7 158) (M7 25) 0 0 8) = M8 at *
  rw [b_111i9_133]
  rw [k_159_26, am_ans_none]
  have h8 := wcs_s h7 (by decide) (by decide) 8 159 26 rfl rfl rfl
  generalize am_row M8 26 (va_cpy (M8 159) (M8 26) 0 0 8) = M9 at *
  rw [b_111i9_144]
  rw [k_160_27, am_ans_none]
  have h9 := wcs_s h8 (by decide) (by decide) 10 160 27 rfl rfl rfl
  generalize am_row M9 27 (va_cpy (M9 160) (M9 27) 0 0 10) = M10 at *
  rw [b_111i9_155]
  rw [k_161_28, am_ans_none]
  have h10 := wcs_s h9 (by decide) (by decide) 10 161 28 rfl rfl rfl
  generalize am_row M10 28 (va_cpy (M10 161) (M10 28) 0 0 10) = M11 at *
  rw [b_111i9_166]
  rw [k_162_29, am_ans_none]
  have h11 := wcs_s h10 (by decide) (by decide) 80 162 29 rfl rfl rfl
  generalize am_row M11 29 (va_cpy (M11 162) (M11 29) 0 0 80) = M12 at *
  rw [b_111i9_177]
  exact hq _ h11
theorem w_18_139 {d nS : Nat} {M : am_M} {Q : Option Value → am_H → Prop} (hq : ∀ M', wcs 18 139 11 M M' → Q none (hp nS M')) : am_Wp (d + 2) 111 0 [.ref 18, .ref 139] [] (hp nS M) Q := by
  rw [b_111i10_0]
  have h0 := wcs_0 (w2 := 18) (w1 := 139) (by decide) M
  have e : ∀ (A : am_M) (k : Nat) (v : Int32), am_up A 18 k v 139 = A 139 := fun A k v => up_ne _ _ _ (by decide)
  simp only [e]
  generalize am_up (am_up (am_up (am_up (am_up (am_up (am_up M 18 0 (M 139 0)) 18 1 (M 139 1)) 18 2 (M 139 2)) 18 3 (M 139 3)) 18 4 (M 139 4)) 18 5 (M 139 5)) 18 6 (M 139 6) = M1 at *
  rw [k_140_19, am_ans_none]
  have h1 := wcs_s h0 (by decide) (by decide) 6 140 19 rfl rfl rfl
  generalize am_row M1 19 (va_cpy (M1 140) (M1 19) 0 0 6) = M2 at *
  rw [b_111i10_67]
  rw [k_141_20, am_ans_none]
  have h2 := wcs_s h1 (by decide) (by decide) 6 141 20 rfl rfl rfl
  generalize am_row M2 20 (va_cpy (M2 141) (M2 20) 0 0 6) = M3 at *
  rw [b_111i10_78]
  rw [k_142_21, am_ans_none]
  have h3 := wcs_s h2 (by decide) (by decide) 6 142 21 rfl rfl rfl
  generalize am_row M3 21 (va_cpy (M3 142) (M3 21) 0 0 6) = M4 at *
  rw [b_111i10_89]
  rw [k_143_22, am_ans_none]
  have h4 := wcs_s h3 (by decide) (by decide) 6 143 22 rfl rfl rfl
  generalize am_row M4 22 (va_cpy (M4 143) (M4 22) 0 0 6) = M5 at *
  rw [b_111i10_100]
  rw [k_144_23, am_ans_none]
  have h5 := wcs_s h4 (by decide) (by decide) 6 144 23 rfl rfl rfl
  generalize am_row M5 23 (va_cpy (M5 144) (M5 23) 0 0 6) = M6 at *
  rw [b_111i10_111]
  rw [k_145_24, am_ans_none]
  have h6 := wcs_s h5 (by decide) (by decide) 8 145 24 rfl rfl rfl
  generalize am_row M6 24 (va_cpy (M6 145) (M6 24) 0 0 8) = M7 at *
  rw [b_111i10_122]
  rw [k_146_25, am_ans_none]
  have h7 := wcs_s h6 (by decide) (by decide) 8 146 25 rfl rfl rfl
  generalize am_row M7 25 (va_cpy (M7 146) (M7 25) 0 0 8) = M8 at *
  rw [b_111i10_133]
  rw [k_147_26, am_ans_none]
  have h8 := wcs_s h7 (by decide) (by decide) 8 147 26 rfl rfl rfl
  generalize am_row M8 26 (va_cpy (M8 147) (M8 26) 0 0 8) = M9 at *
  rw [b_111i10_144]
  rw [k_148_27, am_ans_none]
  have h9 := wcs_s h8 (by decide) (by decide) 10 148 27 rfl rfl rfl
  generalize am_row M9 27 (va_cpy (M9 148) (M9 27) 0 0 10) = M10 at *
  rw [b_111i10_155]
  rw [k_149_28, am_ans_none]
  have h10 := wcs_s h9 (by decide) (by decide) 10 149 28 rfl rfl rfl
  generalize am_row M10 28 (va_cpy (M10 149) (M10 28) 0 0 10) = M11 at *
  rw [b_111i10_166]
  rw [k_150_29, am_ans_none]
  have h11 := wcs_s h10 (by decide) (by decide) 80 150 29 rfl rfl rfl
  generalize am_row M11 29 (va_cpy (M11 150) (M11 29) 0 0 80) = M12 at *
  rw [b_111i10_177]
  exact hq _ h11
theorem w_18_127 {d nS : Nat} {M : am_M} {Q : Option Value → am_H → Prop} (hq : ∀ M', wcs 18 127 11 M M' → Q none (hp nS M')) : am_Wp (d + 2) 111 0 [.ref 18, .ref 127] [] (hp nS M) Q := by
  rw [b_111i11_0]
  have h0 := wcs_0 (w2 := 18) (w1 := 127) (by decide) M
  have e : ∀ (A : am_M) (k : Nat) (v : Int32), am_up A 18 k v 127 = A 127 := fun A k v => up_ne _ _ _ (by decide)
  simp only [e]
  generalize am_up (am_up (am_up (am_up (am_up (am_up (am_up M 18 0 (M 127 0)) 18 1 (M 127 1)) 18 2 (M 127 2)) 18 3 (M 127 3)) 18 4 (M 127 4)) 18 5 (M 127 5)) 18 6 (M 127 6) = M1 at *
  rw [k_128_19, am_ans_none]
  have h1 := wcs_s h0 (by decide) (by decide) 6 128 19 rfl rfl rfl
  generalize am_row M1 19 (va_cpy (M1 128) (M1 19) 0 0 6) = M2 at *
  rw [b_111i11_67]
  rw [k_129_20, am_ans_none]
  have h2 := wcs_s h1 (by decide) (by decide) 6 129 20 rfl rfl rfl
  generalize am_row M2 20 (va_cpy (M2 129) (M2 20) 0 0 6) = M3 at *
  rw [b_111i11_78]
  rw [k_130_21, am_ans_none]
  have h3 := wcs_s h2 (by decide) (by decide) 6 130 21 rfl rfl rfl
  generalize am_row M3 21 (va_cpy (M3 130) (M3 21) 0 0 6) = M4 at *
  rw [b_111i11_89]
  rw [k_131_22, am_ans_none]
  have h4 := wcs_s h3 (by decide) (by decide) 6 131 22 rfl rfl rfl
  generalize am_row M4 22 (va_cpy (M4 131) (M4 22) 0 0 6) = M5 at *
  rw [b_111i11_100]
  rw [k_132_23, am_ans_none]
  have h5 := wcs_s h4 (by decide) (by decide) 6 132 23 rfl rfl rfl
  generalize am_row M5 23 (va_cpy (M5 132) (M5 23) 0 0 6) = M6 at *
  rw [b_111i11_111]
  rw [k_133_24, am_ans_none]
  have h6 := wcs_s h5 (by decide) (by decide) 8 133 24 rfl rfl rfl
  generalize am_row M6 24 (va_cpy (M6 133) (M6 24) 0 0 8) = M7 at *
  rw [b_111i11_122]
  rw [k_134_25, am_ans_none]
  have h7 := wcs_s h6 (by decide) (by decide) 8 134 25 rfl rfl rfl
  generalize am_row M7 25 (va_cpy (M7 134) (M7 25) 0 0 8) = M8 at *
  rw [b_111i11_133]
  rw [k_135_26, am_ans_none]
  have h8 := wcs_s h7 (by decide) (by decide) 8 135 26 rfl rfl rfl
  generalize am_row M8 26 (va_cpy (M8 135) (M8 26) 0 0 8) = M9 at *
  rw [b_111i11_144]
  rw [k_136_27, am_ans_none]
  have h9 := wcs_s h8 (by decide) (by decide) 10 136 27 rfl rfl rfl
  generalize am_row M9 27 (va_cpy (M9 136) (M9 27) 0 0 10) = M10 at *
  rw [b_111i11_155]
  rw [k_137_28, am_ans_none]
  have h10 := wcs_s h9 (by decide) (by decide) 10 137 28 rfl rfl rfl
  generalize am_row M10 28 (va_cpy (M10 137) (M10 28) 0 0 10) = M11 at *
  rw [b_111i11_166]
  rw [k_138_29, am_ans_none]
  have h11 := wcs_s h10 (by decide) (by decide) 80 138 29 rfl rfl rfl
  generalize am_row M11 29 (va_cpy (M11 138) (M11 29) 0 0 80) = M12 at *
  rw [b_111i11_177]
  exact hq _ h11
theorem w_18_115 {d nS : Nat} {M : am_M} {Q : Option Value → am_H → Prop} (hq : ∀ M', wcs 18 115 11 M M' → Q none (hp nS M')) : am_Wp (d + 2) 111 0 [.ref 18, .ref 115] [] (hp nS M) Q := by
  rw [b_111i12_0]
  have h0 := wcs_0 (w2 := 18) (w1 := 115) (by decide) M
  have e : ∀ (A : am_M) (k : Nat) (v : Int32), am_up A 18 k v 115 = A 115 := fun A k v => up_ne _ _ _ (by decide)
  simp only [e]
  generalize am_up (am_up (am_up (am_up (am_up (am_up (am_up M 18 0 (M 115 0)) 18 1 (M 115 1)) 18 2 (M 115 2)) 18 3 (M 115 3)) 18 4 (M 115 4)) 18 5 (M 115 5)) 18 6 (M 115 6) = M1 at *
  rw [k_116_19, am_ans_none]
  have h1 := wcs_s h0 (by decide) (by decide) 6 116 19 rfl rfl rfl
  generalize am_row M1 19 (va_cpy (M1 116) (M1 19) 0 0 6) = M2 at *
  rw [b_111i12_67]
  rw [k_117_20, am_ans_none]
  have h2 := wcs_s h1 (by decide) (by decide) 6 117 20 rfl rfl rfl
  generalize am_row M2 20 (va_cpy (M2 117) (M2 20) 0 0 6) = M3 at *
  rw [b_111i12_78]
  rw [k_118_21, am_ans_none]
  have h3 := wcs_s h2 (by decide) (by decide) 6 118 21 rfl rfl rfl
  generalize am_row M3 21 (va_cpy (M3 118) (M3 21) 0 0 6) = M4 at *
  rw [b_111i12_89]
  rw [k_119_22, am_ans_none]
  have h4 := wcs_s h3 (by decide) (by decide) 6 119 22 rfl rfl rfl
  generalize am_row M4 22 (va_cpy (M4 119) (M4 22) 0 0 6) = M5 at *
  rw [b_111i12_100]
  rw [k_120_23, am_ans_none]
  have h5 := wcs_s h4 (by decide) (by decide) 6 120 23 rfl rfl rfl
  generalize am_row M5 23 (va_cpy (M5 120) (M5 23) 0 0 6) = M6 at *
  rw [b_111i12_111]
  rw [k_121_24, am_ans_none]
  have h6 := wcs_s h5 (by decide) (by decide) 8 121 24 rfl rfl rfl
  generalize am_row M6 24 (va_cpy (M6 121) (M6 24) 0 0 8) = M7 at *
  rw [b_111i12_122]
  rw [k_122_25, am_ans_none]
  have h7 := wcs_s h6 (by decide) (by decide) 8 122 25 rfl rfl rfl
  generalize am_row M7 25 (va_cpy (M7 122) (M7 25) 0 0 8) = M8 at *
  rw [b_111i12_133]
  rw [k_123_26, am_ans_none]
  have h8 := wcs_s h7 (by decide) (by decide) 8 123 26 rfl rfl rfl
  generalize am_row M8 26 (va_cpy (M8 123) (M8 26) 0 0 8) = M9 at *
  rw [b_111i12_144]
  rw [k_124_27, am_ans_none]
  have h9 := wcs_s h8 (by decide) (by decide) 10 124 27 rfl rfl rfl
  generalize am_row M9 27 (va_cpy (M9 124) (M9 27) 0 0 10) = M10 at *
  rw [b_111i12_155]
  rw [k_125_28, am_ans_none]
  have h10 := wcs_s h9 (by decide) (by decide) 10 125 28 rfl rfl rfl
  generalize am_row M10 28 (va_cpy (M10 125) (M10 28) 0 0 10) = M11 at *
  rw [b_111i12_166]
  rw [k_126_29, am_ans_none]
  have h11 := wcs_s h10 (by decide) (by decide) 80 126 29 rfl rfl rfl
  generalize am_row M11 29 (va_cpy (M11 126) (M11 29) 0 0 80) = M12 at *
  rw [b_111i12_177]
  exact hq _ h11
theorem w_60_18 {d nS : Nat} {M : am_M} {Q : Option Value → am_H → Prop} (hq : ∀ M', wcs 60 18 11 M M' → Q none (hp nS M')) : am_Wp (d + 2) 111 0 [.ref 60, .ref 18] [] (hp nS M) Q := by
  rw [b_111i13_0]
  have h0 := wcs_0 (w2 := 60) (w1 := 18) (by decide) M
  have e : ∀ (A : am_M) (k : Nat) (v : Int32), am_up A 60 k v 18 = A 18 := fun A k v => up_ne _ _ _ (by decide)
  simp only [e]
  generalize am_up (am_up (am_up (am_up (am_up (am_up (am_up M 60 0 (M 18 0)) 60 1 (M 18 1)) 60 2 (M 18 2)) 60 3 (M 18 3)) 60 4 (M 18 4)) 60 5 (M 18 5)) 60 6 (M 18 6) = M1 at *
  rw [k_19_61, am_ans_none]
  have h1 := wcs_s h0 (by decide) (by decide) 6 19 61 rfl rfl rfl
  generalize am_row M1 61 (va_cpy (M1 19) (M1 61) 0 0 6) = M2 at *
  rw [b_111i13_67]
  rw [k_20_62, am_ans_none]
  have h2 := wcs_s h1 (by decide) (by decide) 6 20 62 rfl rfl rfl
  generalize am_row M2 62 (va_cpy (M2 20) (M2 62) 0 0 6) = M3 at *
  rw [b_111i13_78]
  rw [k_21_63, am_ans_none]
  have h3 := wcs_s h2 (by decide) (by decide) 6 21 63 rfl rfl rfl
  generalize am_row M3 63 (va_cpy (M3 21) (M3 63) 0 0 6) = M4 at *
  rw [b_111i13_89]
  rw [k_22_64, am_ans_none]
  have h4 := wcs_s h3 (by decide) (by decide) 6 22 64 rfl rfl rfl
  generalize am_row M4 64 (va_cpy (M4 22) (M4 64) 0 0 6) = M5 at *
  rw [b_111i13_100]
  rw [k_23_65, am_ans_none]
  have h5 := wcs_s h4 (by decide) (by decide) 6 23 65 rfl rfl rfl
  generalize am_row M5 65 (va_cpy (M5 23) (M5 65) 0 0 6) = M6 at *
  rw [b_111i13_111]
  rw [k_24_66, am_ans_none]
  have h6 := wcs_s h5 (by decide) (by decide) 8 24 66 rfl rfl rfl
  generalize am_row M6 66 (va_cpy (M6 24) (M6 66) 0 0 8) = M7 at *
  rw [b_111i13_122]
  rw [k_25_67, am_ans_none]
  have h7 := wcs_s h6 (by decide) (by decide) 8 25 67 rfl rfl rfl
  generalize am_row M7 67 (va_cpy (M7 25) (M7 67) 0 0 8) = M8 at *
  rw [b_111i13_133]
  rw [k_26_68, am_ans_none]
  have h8 := wcs_s h7 (by decide) (by decide) 8 26 68 rfl rfl rfl
  generalize am_row M8 68 (va_cpy (M8 26) (M8 68) 0 0 8) = M9 at *
  rw [b_111i13_144]
  rw [k_27_69, am_ans_none]
  have h9 := wcs_s h8 (by decide) (by decide) 10 27 69 rfl rfl rfl
  generalize am_row M9 69 (va_cpy (M9 27) (M9 69) 0 0 10) = M10 at *
  rw [b_111i13_155]
  rw [k_28_70, am_ans_none]
  have h10 := wcs_s h9 (by decide) (by decide) 10 28 70 rfl rfl rfl
  generalize am_row M10 70 (va_cpy (M10 28) (M10 70) 0 0 10) = M11 at *
  rw [b_111i13_166]
  rw [k_29_71, am_ans_none]
  have h11 := wcs_s h10 (by decide) (by decide) 80 29 71 rfl rfl rfl
  generalize am_row M11 71 (va_cpy (M11 29) (M11 71) 0 0 80) = M12 at *
  rw [b_111i13_177]
  exact hq _ h11
theorem w_18_60 {d nS : Nat} {M : am_M} {Q : Option Value → am_H → Prop} (hq : ∀ M', wcs 18 60 11 M M' → Q none (hp nS M')) : am_Wp (d + 2) 111 0 [.ref 18, .ref 60] [] (hp nS M) Q := by
  rw [b_111i14_0]
  have h0 := wcs_0 (w2 := 18) (w1 := 60) (by decide) M
  have e : ∀ (A : am_M) (k : Nat) (v : Int32), am_up A 18 k v 60 = A 60 := fun A k v => up_ne _ _ _ (by decide)
  simp only [e]
  generalize am_up (am_up (am_up (am_up (am_up (am_up (am_up M 18 0 (M 60 0)) 18 1 (M 60 1)) 18 2 (M 60 2)) 18 3 (M 60 3)) 18 4 (M 60 4)) 18 5 (M 60 5)) 18 6 (M 60 6) = M1 at *
  rw [k_61_19, am_ans_none]
  have h1 := wcs_s h0 (by decide) (by decide) 6 61 19 rfl rfl rfl
  generalize am_row M1 19 (va_cpy (M1 61) (M1 19) 0 0 6) = M2 at *
  rw [b_111i14_67]
  rw [k_62_20, am_ans_none]
  have h2 := wcs_s h1 (by decide) (by decide) 6 62 20 rfl rfl rfl
  generalize am_row M2 20 (va_cpy (M2 62) (M2 20) 0 0 6) = M3 at *
  rw [b_111i14_78]
  rw [k_63_21, am_ans_none]
  have h3 := wcs_s h2 (by decide) (by decide) 6 63 21 rfl rfl rfl
  generalize am_row M3 21 (va_cpy (M3 63) (M3 21) 0 0 6) = M4 at *
  rw [b_111i14_89]
  rw [k_64_22, am_ans_none]
  have h4 := wcs_s h3 (by decide) (by decide) 6 64 22 rfl rfl rfl
  generalize am_row M4 22 (va_cpy (M4 64) (M4 22) 0 0 6) = M5 at *
  rw [b_111i14_100]
  rw [k_65_23, am_ans_none]
  have h5 := wcs_s h4 (by decide) (by decide) 6 65 23 rfl rfl rfl
  generalize am_row M5 23 (va_cpy (M5 65) (M5 23) 0 0 6) = M6 at *
  rw [b_111i14_111]
  rw [k_66_24, am_ans_none]
  have h6 := wcs_s h5 (by decide) (by decide) 8 66 24 rfl rfl rfl
  generalize am_row M6 24 (va_cpy (M6 66) (M6 24) 0 0 8) = M7 at *
  rw [b_111i14_122]
  rw [k_67_25, am_ans_none]
  have h7 := wcs_s h6 (by decide) (by decide) 8 67 25 rfl rfl rfl
  generalize am_row M7 25 (va_cpy (M7 67) (M7 25) 0 0 8) = M8 at *
  rw [b_111i14_133]
  rw [k_68_26, am_ans_none]
  have h8 := wcs_s h7 (by decide) (by decide) 8 68 26 rfl rfl rfl
  generalize am_row M8 26 (va_cpy (M8 68) (M8 26) 0 0 8) = M9 at *
  rw [b_111i14_144]
  rw [k_69_27, am_ans_none]
  have h9 := wcs_s h8 (by decide) (by decide) 10 69 27 rfl rfl rfl
  generalize am_row M9 27 (va_cpy (M9 69) (M9 27) 0 0 10) = M10 at *
  rw [b_111i14_155]
  rw [k_70_28, am_ans_none]
  have h10 := wcs_s h9 (by decide) (by decide) 10 70 28 rfl rfl rfl
  generalize am_row M10 28 (va_cpy (M10 70) (M10 28) 0 0 10) = M11 at *
  rw [b_111i14_166]
  rw [k_71_29, am_ans_none]
  have h11 := wcs_s h10 (by decide) (by decide) 80 71 29 rfl rfl rfl
  generalize am_row M11 29 (va_cpy (M11 71) (M11 29) 0 0 80) = M12 at *
  rw [b_111i14_177]
  exact hq _ h11
end
