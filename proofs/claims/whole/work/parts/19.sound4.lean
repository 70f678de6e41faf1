theorem am_val : ∀ (n d mi pc : Nat) (L st : List Value) (h : am_H) (r : Option Value) (h' : am_H), am_ex n d mi pc L st h = some (r, h') → r = none ∨ ∃ v : Int32, r = some (.int v)
  | 0, _, _, _, _, _, _, _, _, hs => by cases hs
  | n + 1, d, mi, pc, L, st, h, r, h', hs => by
    have ih := am_val n
    simp only [am_ex] at hs
    split at hs
    · cases hs
    · rename_i e he
      unfold am_go at hs
      split at hs
      · split at hs
        · cases hs
        · exact ih _ _ _ _ _ _ _ _ hs
      · split at hs
        · obtain ⟨-, -, rfl, -⟩ := am_retV_s hs
          exact Or.inl rfl
        · split at hs
          · obtain ⟨v, t, -, -, -, rfl, -⟩ := am_retI_s hs
            exact Or.inr ⟨v, rfl⟩
          · unfold am_cal at hs
            split at hs
            · cases hs
            · split at hs
              · replace hs := am_r1_s hs
                obtain ⟨a, r', rfl, hs⟩ := hs
                split at hs
                · exact ih _ _ _ _ _ _ _ _ hs
                · cases hs
              · split at hs
                · split at hs
                  · cases hs
                  · exact ih _ _ _ _ _ _ _ _ hs
                · split at hs
                  · cases hs
                  · split at hs
                    · split at hs
                      · cases hs
                      · exact ih _ _ _ _ _ _ _ _ hs
                    · cases hs
theorem am_ans_v {g : am_G} {v : Option Value} {r : List Value} (h : v = none ∨ ∃ x : Int32, v = some (.int x)) : (am_ans v r).map (am_v g) = v.toList ++ r.map (am_v g) := by
  rcases h with rfl | ⟨x, rfl⟩
  · rfl
  · rfl
set_option maxHeartbeats 4000000 in
theorem am_sound (g : am_G) (l : Launch) : ∀ n, am_Snd g l n
  | 0 => fun d mi pc L st h r h' hs => by cases hs
  | n + 1 => by
    have ih := am_sound g l n
    intro d mi pc L st h r h' hs p e R s m args below meth c H locs cells slots Q ls hX hC hfr hlo hcells hslots hI hl hL hend
    simp only [am_ex] at hs
    split at hs
    · cases hs
    · rename_i e0 he0
      obtain ⟨i, len, r1, r2, r3⟩ := e0
      have hck := am_code_ok he0
      unfold am_go at hs
      split at hs
      · split at hs
        · cases hs
        · rename_i q hq
          have m1 := am_step_mono hq
          have m2 := am_mono _ _ _ _ _ _ _ _ _ hs
          refine am_step_ok hX hC hI hl hL hck hq (by omega) (by omega) ?_
          intro H1 locs1 ls1 hI1 hl1 hL1
          refine ih d mi q.1 q.2.1 q.2.2.1 q.2.2.2 r h' hs p e R s m args below meth c H1 locs1 _ _ Q ls1 hX hC hfr hlo (by omega) (by omega) hI1 hl1 hL1 ?_
          intro H2 locs2 pc2 ls2 hI2 hl2 he2
          have k9 := hend H2 locs2 pc2 ls2 hI2 hl2 he2
          rw [show cells + (q.2.2.2.1 - h.1) + (h'.1 - q.2.2.2.1) = cells + (h'.1 - h.1) by omega, show slots + (q.2.2.2.2.1 - h.2.1) + (h'.2.1 - q.2.2.2.2.1) = slots + (h'.2.1 - h.2.1) by omega]
          exact k9
      · have hck2 := hck
        unfold am_chk at hck2
        rw [Bool.and_eq_true, Bool.and_eq_true, decide_eq_true_eq] at hck2
        obtain ⟨⟨hd, hlen⟩, hlk⟩ := hck2
        rename_i hk0
        split at hs
        · rename_i hk1
          have hi : i = .return_ := by
            cases i <;> first | rfl | (simp only [am_kind] at hk1; exact absurd hk1 (by decide))
          subst hi
          obtain rfl : len = 1 := by simpa [am_isSw, am_len] using hlen
          obtain ⟨rfl, hrt, rfl, rfl⟩ := am_retV_s hs
          have k9 := hend H locs pc ls hI hl (Or.inl ⟨rfl, hd, hrt⟩)
          rw [Nat.sub_self, Nat.sub_self] at k9
          exact k9
        · split at hs
          · rename_i hk1 hk2
            have hi : i = .ireturn := by
              cases i <;> first | rfl | (simp only [am_kind] at hk2; exact absurd hk2 (by decide))
            subst hi
            obtain rfl : len = 1 := by simpa [am_isSw, am_len] using hlen
            obtain ⟨v, t, rfl, hrt, hnw, rfl, rfl⟩ := am_retI_s hs
            have k9 := hend H locs pc ls hI hl (Or.inr ⟨v, t, rfl, hd, hrt, hnw⟩)
            rw [Nat.sub_self, Nat.sub_self] at k9
            exact k9
          · rename_i hk1 hk2
            have hkd : am_kind i = 3 := by
              have h0 : ¬ am_kind i = 0 := hk0
              have h1 : ¬ am_kind i = 1 := hk1
              have h2 : ¬ am_kind i = 2 := hk2
              cases i <;> first | rfl | exact absurd rfl h0 | exact absurd rfl h1 | exact absurd rfl h2
            have hlen3 : len = 3 := by
              cases i <;> first | (simp only [am_kind] at hkd; exact absurd hkd (by decide)) | simpa [am_isSw, am_len] using hlen
            subst hlen3
            unfold am_cal at hs
            split at hs
            · cases hs
            · rename_i d'
              split at hs
              · rename_i h5
                have h5 : r1 = 5 := h5
                subst h5
                replace hs := am_r1_s hs
                obtain ⟨a, r', rfl, hs⟩ := hs
                split at hs
                · rename_i ha
                  have hsp : ∃ i9, i = .invokespecial i9 ∧ am_lkC (am_me mi).1.cls i9 r3 5 r2 = true := by
                    cases i <;> first | (simp only [am_kind] at hkd; exact absurd hkd (by decide)) | skip
                    · rename_i i9
                      simp only [am_lnk, Bool.and_eq_true] at hlk
                      exact ⟨i9, rfl, hlk.2⟩
                    · simp [am_lnk] at hlk
                    · simp [am_lnk] at hlk
                  obtain ⟨i9, rfl, hlkc⟩ := hsp
                  obtain ⟨q, hq, e1, e2, e3, e4, hclw⟩ := am_lkC_in hlkc
                  unfold am_clw at hclw
                  rw [e1, e2, e3] at hclw
                  have hlnk := am_okw_in hclw
                  rw [List.map_cons, am_v_ref ha.1]
                  have hsum := am_sum_v hC.F r'
                  refine W.objInit hX.1 hX.2.1 hX.2.2.2.1 (hX.2.2.2.2.2.2.2 _ hlnk) (hX.2.2.2.2.2.2.2 _ am_w_obj.1) (hX.2.2.2.2.2.2.2 _ am_w_obj.2) rfl (by show ls.size = _; rw [hX.2.2.1]; exact hL.1) rfl hd (by omega) (by show 2 * 0 + _ + 12 ≤ _; omega) ?_
                  exact ih (d' + 1) mi (pc + 3) L r' h r h' hs p e R s m args below meth c H locs cells slots Q ls hX hC hfr hlo hcells hslots hI hl hL hend
                · cases hs
              · split at hs
                · rename_i h5 h6
                  have h6 : r1 = 6 := h6
                  subst h6
                  split at hs
                  · cases hs
                  · rename_i q hq
                    have hsp : ∃ i9, i = .invokestatic i9 ∧ am_lkC (am_me mi).1.cls i9 r3 6 r2 = true := by
                      cases i <;> first | (simp only [am_kind] at hkd; exact absurd hkd (by decide)) | skip
                      · simp [am_lnk] at hlk
                      · rename_i i9
                        simp only [am_lnk, Bool.and_eq_true] at hlk
                        exact ⟨i9, rfl, hlk.2⟩
                      · simp [am_lnk] at hlk
                    obtain ⟨i9, rfl, hlkc⟩ := hsp
                    obtain ⟨qq, hqq, e1, e2, e3, e4, hclw⟩ := am_lkC_in hlkc
                    unfold am_clw at hclw
                    rw [e1, e2, e3] at hclw
                    have hlnk := am_okw_in hclw
                    have m1 := am_copy_mono hq
                    have m2 := am_mono _ _ _ _ _ _ _ _ _ hs
                    refine am_copy_ok hX hC hI hl hL hd hlnk (by omega) (by omega) hq ?_
                    intro H1 locs1 ls1 hI1 hl1 hL1
                    refine ih (d' + 1) mi q.1 q.2.1 q.2.2.1 q.2.2.2 r h' hs p e R s m args below meth c H1 locs1 _ _ Q ls1 hX hC hfr hlo (by omega) (by omega) hI1 hl1 hL1 ?_
                    intro H2 locs2 pc2 ls2 hI2 hl2 he2
                    have k9 := hend H2 locs2 pc2 ls2 hI2 hl2 he2
                    rw [show cells + (q.2.2.2.1 - h.1) + (h'.1 - q.2.2.2.1) = cells + (h'.1 - h.1) by omega, show slots + (q.2.2.2.2.1 - h.2.1) + (h'.2.1 - q.2.2.2.2.1) = slots + (h'.2.1 - h.2.1) by omega]
                    exact k9
                · rename_i h5 h6
                  split at hs
                  · cases hs
                  · rename_i q hq
                    split at hs
                    · rename_i hcnd
                      split at hs
                      · cases hs
                      · rename_i w hw
                        obtain ⟨v, h1⟩ := w
                        obtain ⟨as, rr⟩ := q
                        have m1 := am_mono _ _ _ _ _ _ _ _ _ hw
                        have m2 := am_mono _ _ _ _ _ _ _ _ _ hs
                        have m1 : h.1 ≤ h1.1 ∧ h.2.1 ≤ h1.2.1 := m1
                        have m2 : h1.1 ≤ h'.1 ∧ h1.2.1 ≤ h'.2.1 := m2
                        refine am_call_ok ih hX hC hI hl hL hd hlk hkd h5 h6 hq hcnd.1 hcnd.2 hw hfr hlo (by omega) (by omega) ?_
                        intro H1 locs1 hI1 hl1
                        rw [← am_ans_v (am_val _ _ _ _ _ _ _ _ _ hw)]
                        refine ih (d' + 1) mi (pc + 3) L (am_ans v rr) h1 r h' hs p e R s m args below meth c H1 locs1 _ _ Q ls hX hC hfr hlo (by omega) (by omega) hI1 hl1 hL ?_
                        intro H2 locs2 pc2 ls2 hI2 hl2 he2
                        have k9 := hend H2 locs2 pc2 ls2 hI2 hl2 he2
                        rw [show cells + (h1.1 - h.1) + (h'.1 - h1.1) = cells + (h'.1 - h.1) by omega, show slots + (h1.2.1 - h.2.1) + (h'.2.1 - h1.2.1) = slots + (h'.2.1 - h.2.1) by omega]
                        exact k9
                    · cases hs
