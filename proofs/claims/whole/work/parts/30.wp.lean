/-! WHAT A RUN COMES TO: rules -/
theorem am_more : ∀ (n d mi pc : Nat) (L st : List Value) (h : am_H) (x : Option Value × am_H), am_ex n d mi pc L st h = some x → am_ex (n + 1) d mi pc L st h = some x
  | 0, _, _, _, _, _, _, _, hs => by cases hs
  | n + 1, d, mi, pc, L, st, h, x, hs => by
    have ih := am_more n
    have e1 : am_ex (n + 1) d mi pc L st h = (match am_code mi pc with | none => none | some e => am_go (am_ex n) d mi pc L st h e) := rfl
    have e2 : am_ex (n + 1 + 1) d mi pc L st h = (match am_code mi pc with | none => none | some e => am_go (am_ex (n + 1)) d mi pc L st h e) := rfl
    rw [e1] at hs
    rw [e2]
    cases hc : am_code mi pc with
    | none => rw [hc] at hs; cases hs
    | some e =>
      rw [hc] at hs
      simp only at hs ⊢
      unfold am_go at hs ⊢
      split at hs
      · rename_i hk
        rw [if_pos hk]
        cases hq : am_step e pc L st h with
        | none => rw [hq] at hs; cases hs
        | some q => rw [hq] at hs; exact ih _ _ _ _ _ _ _ hs
      · rename_i hk
        rw [if_neg hk]
        split at hs
        · rename_i hk1; rw [if_pos hk1]; exact hs
        · rename_i hk1
          rw [if_neg hk1]
          split at hs
          · rename_i hk2; rw [if_pos hk2]; exact hs
          · rename_i hk2
            rw [if_neg hk2]
            unfold am_cal at hs ⊢
            split at hs
            · cases hs
            · split at hs
              · rename_i h5
                rw [if_pos h5]
                replace hs := am_r1_s hs
                obtain ⟨a, r, rfl, hs⟩ := hs
                show (if _ then _ else _) = _
                split at hs
                · rename_i ha; rw [if_pos ha]; exact ih _ _ _ _ _ _ _ hs
                · cases hs
              · rename_i h5
                rw [if_neg h5]
                split at hs
                · rename_i h6
                  rw [if_pos h6]
                  cases hq : am_copy pc L st h with
                  | none => rw [hq] at hs; cases hs
                  | some q => rw [hq] at hs; exact ih _ _ _ _ _ _ _ hs
                · rename_i h6
                  rw [if_neg h6]
                  cases hq : am_take (am_me e.2.2.2.1).2.2.2.2.1 st with
                  | none => rw [hq] at hs; cases hs
                  | some q =>
                    rw [hq] at hs
                    simp only at hs ⊢
                    split at hs
                    · rename_i hcnd
                      rw [if_pos hcnd]
                      rename_i d'
                      cases hw : am_ex n d' e.2.2.2.1 0 (am_ent e.2.2.2.1 q.1) [] h with
                      | none => rw [hw] at hs; cases hs
                      | some w =>
                        rw [hw] at hs
                        rw [ih _ _ _ _ _ _ _ hw]
                        exact ih _ _ _ _ _ _ _ hs
                    · cases hs
theorem am_mores {n k d mi pc : Nat} {L st : List Value} {h : am_H} {x : Option Value × am_H} (hs : am_ex n d mi pc L st h = some x) : am_ex (n + k) d mi pc L st h = some x := by
  induction k with
  | zero => exact hs
  | succ k ih => exact am_more _ _ _ _ _ _ _ _ ih
/-- from here my machine comes to an end, and Q holds of the answer and the heap -/
def am_Wp (d mi pc : Nat) (L st : List Value) (h : am_H) (Q : Option Value → am_H → Prop) : Prop := ∃ (n : Nat) (r : Option Value) (h' : am_H), am_ex n d mi pc L st h = some (r, h') ∧ Q r h'
theorem wp_mono {d mi pc : Nat} {L st : List Value} {h : am_H} {Q Q' : Option Value → am_H → Prop} (k : am_Wp d mi pc L st h Q) (hq : ∀ r h', Q r h' → Q' r h') : am_Wp d mi pc L st h Q' := by
  obtain ⟨n, r, h', h1, h2⟩ := k
  exact ⟨n, r, h', h1, hq r h' h2⟩
theorem wp_step {d mi pc : Nat} {L st : List Value} {h : am_H} {Q : Option Value → am_H → Prop} {e : am_I} {q : am_S} (he : am_code mi pc = some e) (hk : am_kind e.1 = 0) (hs : am_step e pc L st h = some q) (k : am_Wp d mi q.1 q.2.1 q.2.2.1 q.2.2.2 Q) : am_Wp d mi pc L st h Q := by
  obtain ⟨n, r, h', h1, h2⟩ := k
  refine ⟨n + 1, r, h', ?_, h2⟩
  show (match am_code mi pc with | none => none | some e => am_go (am_ex n) d mi pc L st h e) = _
  rw [he]
  show am_go (am_ex n) d mi pc L st h e = _
  unfold am_go
  rw [if_pos hk, hs]
  exact h1
/-! a faster look into the code tables -/
def am_tss : List (List (List (List (Option am_I)))) := [[am_t0, am_t1, am_t2, am_t3, am_t4, am_t5, am_t6, am_t7, am_t8, am_t9, am_t10, am_t11, am_t12, am_t13, am_t14, am_t15],
  [am_t16, am_t17, am_t18, am_t19, am_t20, am_t21, am_t22, am_t23, am_t24, am_t25, am_t26, am_t27, am_t28, am_t29, am_t30, am_t31],
  [am_t32, am_t33, am_t34, am_t35, am_t36, am_t37, am_t38, am_t39, am_t40, am_t41, am_t42, am_t43, am_t44, am_t45, am_t46, am_t47],
  [am_t48, am_t49, am_t50, am_t51, am_t52, am_t53, am_t54, am_t55, am_t56, am_t57, am_t58, am_t59, am_t60, am_t61, am_t62, am_t63],
  [am_t64, am_t65, am_t66, am_t67, am_t68, am_t69, am_t70, am_t71, am_t72, am_t73, am_t74, am_t75, am_t76, am_t77, am_t78, am_t79],
  [am_t80, am_t81, am_t82, am_t83, am_t84, am_t85, am_t86, am_t87, am_t88, am_t89, am_t90, am_t91, am_t92, am_t93, am_t94, am_t95],
  [am_t96, am_t97, am_t98, am_t99, am_t100, am_t101, am_t102, am_t103, am_t104, am_t105, am_t106, am_t107, am_t108, am_t109, am_t110, am_t111],
  [am_t112, am_t113, am_t114, am_t115, am_t116, am_t117, am_t118, am_t119, am_t120, am_t121, am_t122, am_t123, am_t124, am_t125, am_t126, am_t127],
  [am_t128, am_t129, am_t130, am_t131, am_t132, am_t133, am_t134, am_t135, am_t136, am_t137, am_t138, am_t139, am_t140, am_t141, am_t142, am_t143],
  [am_t144, am_t145, am_t146, am_t147, am_t148, am_t149, am_t150, am_t151, am_t152, am_t153, am_t154, am_t155, am_t156, am_t157, am_t158, am_t159],
  [am_t160, am_t161, am_t162, am_t163, am_t164, am_t165, am_t166, am_t167, am_t168, am_t169, am_t170, am_t171, am_t172, am_t173, am_t174, am_t175],
  [am_t176, am_t177, am_t178, am_t179, am_t180, am_t181, am_t182, am_t183, am_t184, am_t185, am_t186, am_t187, am_t188, am_t189, am_t190, am_t191],
  [am_t192, am_t193, am_t194, am_t195, am_t196, am_t197, am_t198, am_t199, am_t200, am_t201, am_t202, am_t203, am_t204, am_t205, am_t206, am_t207],
  [am_t208, am_t209, am_t210, am_t211, am_t212, am_t213, am_t214, am_t215, am_t216, am_t217, am_t218, am_t219, am_t220, am_t221, am_t222, am_t223],
  [am_t224, am_t225, am_t226, am_t227, am_t228, am_t229, am_t230, am_t231, am_t232, am_t233, am_t234, am_t235, am_t236, am_t237, am_t238, am_t239],
  [am_t240, am_t241, am_t242, am_t243, am_t244, am_t245, am_t246, am_t247, am_t248, am_t249, am_t250, am_t251, am_t252, am_t253, am_t254, am_t255],
  [am_t256, am_t257, am_t258, am_t259, am_t260, am_t261, am_t262, am_t263, am_t264, am_t265, am_t266, am_t267, am_t268, am_t269, am_t270, am_t271],
  [am_t272, am_t273, am_t274, am_t275, am_t276, am_t277, am_t278, am_t279, am_t280, am_t281, am_t282, am_t283, am_t284, am_t285, am_t286, am_t287],
  [am_t288, am_t289, am_t290, am_t291, am_t292, am_t293, am_t294, am_t295, am_t296, am_t297, am_t298, am_t299, am_t300, am_t301, am_t302, am_t303],
  [am_t304, am_t305, am_t306, am_t307, am_t308, am_t309, am_t310, am_t311, am_t312]]
def am_cF (mi pc : Nat) : Option am_I := (((am_tss.getD (mi / 16) []).getD (mi % 16) []).getD (pc / 16) []).getD (pc % 16) none
theorem am_chunk {α : Type} : ∀ (cs : List (List α)) (i : Nat) (x : α), (∀ k, k + 1 < cs.length → (cs.getD k []).length = 16) → (∀ k, (cs.getD k []).length ≤ 16) → (cs.getD (i / 16) []).getD (i % 16) x = cs.flatten.getD i x
  | [], i, x, _, _ => by simp
  | c :: cs, i, x, h1, h2 => by
    have ih := am_chunk cs
    by_cases hi : i < 16
    · rw [show i / 16 = 0 by omega, show i % 16 = i by omega]
      show c.getD i x = (c ++ cs.flatten).getD i x
      by_cases hc : i < c.length
      · rw [List.getD_eq_getElem?_getD, List.getD_eq_getElem?_getD, List.getElem?_append_left hc]
      · have hnil : cs = [] := by
          cases cs with
          | nil => rfl
          | cons a b =>
            have := h1 0 (by simp)
            have : c.length = 16 := this
            omega
        subst hnil
        simp
    · obtain ⟨j, rfl⟩ : ∃ j, i = j + 16 := ⟨i - 16, by omega⟩
      rw [show (j + 16) / 16 = j / 16 + 1 by omega, show (j + 16) % 16 = j % 16 by omega]
      show (cs.getD (j / 16) []).getD (j % 16) x = (c ++ cs.flatten).getD (j + 16) x
      have hlen : c.length ≤ 16 := h2 0
      cases cs with
      | nil =>
        rw [show ([] : List (List α)).flatten = [] from rfl, List.append_nil]
        rw [List.getD_eq_getElem?_getD (l := c), List.getElem?_eq_none (show c.length ≤ j + 16 by omega)]
        simp
      | cons a b =>
        have hc : c.length = 16 := h1 0 (by simp)
        rw [List.getD_eq_getElem?_getD (l := c ++ _), List.getElem?_append_right (by omega), hc, Nat.add_sub_cancel, ← List.getD_eq_getElem?_getD]
        refine ih j x (fun k hk => ?_) (fun k => ?_)
        · exact h1 (k + 1) (by simpa using hk)
        · exact h2 (k + 1)
set_option maxRecDepth 100000 in
theorem am_tss_ok : am_tss.flatten = am_ts := rfl
theorem am_cF_to {mi pc : Nat} {o : Option am_I} (h : am_cF mi pc = o) : am_code mi pc = o := by
  rw [← h]
  unfold am_code am_cF
  have e := am_chunk am_tss mi [] (fun k hk => ?_) (fun k => ?_)
  · rw [e, am_tss_ok]
  · have hk' : k + 1 < 20 := hk
    rcases (show k = 0 ∨ k = 1 ∨ k = 2 ∨ k = 3 ∨ k = 4 ∨ k = 5 ∨ k = 6 ∨ k = 7 ∨ k = 8 ∨ k = 9 ∨ k = 10 ∨ k = 11 ∨ k = 12 ∨ k = 13 ∨ k = 14 ∨ k = 15 ∨ k = 16 ∨ k = 17 ∨ k = 18 by omega) with q | q | q | q | q | q | q | q | q | q | q | q | q | q | q | q | q | q | q <;> subst q <;> rfl
  · by_cases hk : k < 20
    · rcases (show k = 0 ∨ k = 1 ∨ k = 2 ∨ k = 3 ∨ k = 4 ∨ k = 5 ∨ k = 6 ∨ k = 7 ∨ k = 8 ∨ k = 9 ∨ k = 10 ∨ k = 11 ∨ k = 12 ∨ k = 13 ∨ k = 14 ∨ k = 15 ∨ k = 16 ∨ k = 17 ∨ k = 18 ∨ k = 19 by omega) with q | q | q | q | q | q | q | q | q | q | q | q | q | q | q | q | q | q | q | q <;> subst q <;> decide
    · rw [List.getD_eq_getElem?_getD, List.getElem?_eq_none (show am_tss.length ≤ k from Nat.le_of_not_lt hk)]
      decide
/-- k plain steps -/
def am_run : Nat → Nat → am_S → Option am_S
  | 0, _, q => some q
  | k + 1, mi, q => match am_cF mi q.1 with
    | none => none
    | some e => if am_kind e.1 = 0 then (match am_step e q.1 q.2.1 q.2.2.1 q.2.2.2 with
      | none => none
      | some q' => am_run k mi q') else none
theorem wp_run {d mi : Nat} {Q : Option Value → am_H → Prop} : ∀ (k : Nat) {pc : Nat} {L st : List Value} {h : am_H} {q : am_S}, am_run k mi (pc, L, st, h) = some q → am_Wp d mi q.1 q.2.1 q.2.2.1 q.2.2.2 Q → am_Wp d mi pc L st h Q
  | 0, _, _, _, _, _, hr, k => by cases hr; exact k
  | n + 1, pc, L, st, h, q, hr, k => by
    simp only [am_run] at hr
    split at hr
    · cases hr
    · rename_i e he
      split at hr
      · rename_i hk
        split at hr
        · cases hr
        · rename_i q' hq
          exact wp_step (am_cF_to he) hk hq (wp_run n hr k)
      · cases hr
theorem wp_retI {d mi pc : Nat} {L : List Value} {h : am_H} {Q : Option Value → am_H → Prop} {e : am_I} {v : Int32} {t : FieldType} (he : am_code mi pc = some e) (hk : am_kind e.1 = 2) (ht : (am_me mi).2.2.2.1 = some t) (hv : am_rok t v = true) (k : Q (some (.int v)) h) : am_Wp d mi pc L [.int v] h Q := by
  refine ⟨1, some (.int v), h, ?_, k⟩
  show (match am_code mi pc with | none => none | some e => am_go (am_ex 0) d mi pc L [.int v] h e) = _
  rw [he]
  show am_go (am_ex 0) d mi pc L [.int v] h e = _
  unfold am_go
  rw [if_neg (by rw [hk]; decide), if_neg (by rw [hk]; decide), if_pos hk]
  unfold am_retI
  simp only [ht, hv, if_pos]
theorem wp_retV {d mi pc : Nat} {L : List Value} {h : am_H} {Q : Option Value → am_H → Prop} {e : am_I} (he : am_code mi pc = some e) (hk : am_kind e.1 = 1) (ht : (am_me mi).2.2.2.1 = none) (k : Q none h) : am_Wp d mi pc L [] h Q := by
  refine ⟨1, none, h, ?_, k⟩
  show (match am_code mi pc with | none => none | some e => am_go (am_ex 0) d mi pc L [] h e) = _
  rw [he]
  show am_go (am_ex 0) d mi pc L [] h e = _
  unfold am_go
  rw [if_neg (by rw [hk]; decide), if_pos hk]
  unfold am_retV
  simp only [ht]
/-- a call -/
theorem wp_call {d mi pc : Nat} {L st : List Value} {h : am_H} {Q : Option Value → am_H → Prop} {e : am_I} {q : List Value × List Value} (he : am_code mi pc = some e) (hk : am_kind e.1 = 3) (h56 : (e.2.2.1 = 5 ∨ e.2.2.1 = 6) = False) (ht : am_take (am_me e.2.2.2.1).2.2.2.2.1 st = some q)
    (hc : (e.2.2.1 = 0 → am_rec e.2.2.2.1 q.1 h = true) ∧ ((e.2.2.1 = 2 ∨ e.2.2.1 = 4) → am_isR q.1 = true)) (k : am_Wp d e.2.2.2.1 0 (am_ent e.2.2.2.1 q.1) [] h (fun v h1 => am_Wp (d + 1) mi (pc + 3) L (am_ans v q.2) h1 Q)) : am_Wp (d + 1) mi pc L st h Q := by
  obtain ⟨n, v, h1, h2, n', r, h', h3, h4⟩ := k
  have h5 : ¬ e.2.2.1 = 5 := fun z => h56 ▸ (Or.inl z : e.2.2.1 = 5 ∨ e.2.2.1 = 6)
  have h6 : ¬ e.2.2.1 = 6 := fun z => h56 ▸ (Or.inr z : e.2.2.1 = 5 ∨ e.2.2.1 = 6)
  refine ⟨n + n' + 1, r, h', ?_, h4⟩
  show (match am_code mi pc with | none => none | some e => am_go (am_ex (n + n')) (d + 1) mi pc L st h e) = _
  rw [he]
  show am_go (am_ex (n + n')) (d + 1) mi pc L st h e = _
  unfold am_go
  rw [if_neg (by rw [hk]; decide), if_neg (by rw [hk]; decide), if_neg (by rw [hk]; decide)]
  unfold am_cal
  simp only [if_neg h5, if_neg h6, ht, if_pos hc, am_mores (k := n') h2]
  have h7 := am_mores (k := n) h3
  rw [Nat.add_comm] at h7
  exact h7
theorem wp_obj {d mi pc a : Nat} {L r : List Value} {h : am_H} {Q : Option Value → am_H → Prop} {e : am_I} (he : am_code mi pc = some e) (hk : am_kind e.1 = 3) (h5 : e.2.2.1 = 5) (ha : a ≠ 8 ∧ am_sum r ≤ 8) (k : am_Wp (d + 1) mi (pc + 3) L r h Q) : am_Wp (d + 1) mi pc L (.ref a :: r) h Q := by
  obtain ⟨n, v, h1, h2, h3⟩ := k
  refine ⟨n + 1, v, h1, ?_, h3⟩
  show (match am_code mi pc with | none => none | some e => am_go (am_ex n) (d + 1) mi pc L (.ref a :: r) h e) = _
  rw [he]
  show am_go (am_ex n) (d + 1) mi pc L (.ref a :: r) h e = _
  unfold am_go
  rw [if_neg (by rw [hk]; decide), if_neg (by rw [hk]; decide), if_neg (by rw [hk]; decide)]
  unfold am_cal
  simp only [if_pos h5, am_r1, if_pos ha]
  exact h2
theorem wp_copy {d mi pc : Nat} {L st : List Value} {h : am_H} {Q : Option Value → am_H → Prop} {e : am_I} {q : am_S} (he : am_code mi pc = some e) (hk : am_kind e.1 = 3) (h6 : e.2.2.1 = 6) (hs : am_copy pc L st h = some q) (k : am_Wp (d + 1) mi q.1 q.2.1 q.2.2.1 q.2.2.2 Q) : am_Wp (d + 1) mi pc L st h Q := by
  obtain ⟨n, v, h1, h2, h3⟩ := k
  refine ⟨n + 1, v, h1, ?_, h3⟩
  show (match am_code mi pc with | none => none | some e => am_go (am_ex n) (d + 1) mi pc L st h e) = _
  rw [he]
  show am_go (am_ex n) (d + 1) mi pc L st h e = _
  unfold am_go
  rw [if_neg (by rw [hk]; decide), if_neg (by rw [hk]; decide), if_neg (by rw [hk]; decide)]
  unfold am_cal
  have h5 : ¬ e.2.2.1 = 5 := by omega
  simp only [if_neg h5, if_pos h6, hs]
  exact h2
