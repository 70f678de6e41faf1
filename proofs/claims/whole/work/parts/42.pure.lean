/-! RUNS THAT ONLY READ ROWS THAT ARE KNOWN: they may be run on a closed heap -/
def am_alw (R : List Nat) (e : am_I) (st : List Value) : Bool := match e.1 with
  | .putfield _ => false
  | .iastore => false
  | .aastore => false
  | .newarray _ => false
  | .anewarray _ => false
  | .new _ => false
  | .aaload => false
  | .tableswitch _ _ _ _ => false
  | .getfield _ => match st with
    | .ref a :: _ => (!am_isI (am_ty e.2.2.1 e.2.2.2.1)) || (R.contains a && decide (e.2.2.2.1 < 200))
    | _ => false
  | .iaload => match st with
    | .int i :: .ref a :: _ => R.contains a && decide (i.toNatClampNeg < 200) && a != 0
    | _ => false
  | .baload => match st with
    | .int i :: .ref a :: _ => R.contains a && decide (i.toNatClampNeg < 200) && a != 0
    | _ => false
  | .arraylength => match st with
    | .ref a :: _ => a != 0
    | _ => false
  | _ => true
def am_exP (R : List Nat) : Nat → am_X
  | 0 => fun _ _ _ _ _ _ => none
  | n + 1 => fun d mi pc L st h => match am_cF mi pc with
    | none => none
    | some e => if am_alw R e st && !(am_kind e.1 == 3 && e.2.2.1 == 6) then am_go (am_exP R n) d mi pc L st h e else none
def am_agr (R : List Nat) (M0 M : am_M) : Prop := ∀ a, a ∈ R → ∀ k, k < 200 → M a k = M0 a k
theorem gKf_ne {nS a : Nat} (h : a ≠ 0) : gKf nS a = gKf 0 a := by
  unfold gKf
  by_cases h1 : a < 16
  · rw [if_pos h1, if_pos h1]
    unfold am_roK
    split
    · exact absurd rfl h
    all_goals rfl
  · rw [if_neg h1, if_neg h1]
theorem gKf_1 (nS a : Nat) : (gKf nS a).1 = (gKf 0 a).1 := by
  by_cases h : a = 0
  · subst h; rfl
  · rw [gKf_ne h]
set_option maxHeartbeats 4000000 in
theorem am_stepP {R : List Nat} {M0 M : am_M} {nS : Nat} {e : am_I} {pc : Nat} {L st : List Value} {q : am_S} (ha : am_alw R e st = true) (hM : am_agr R M0 M) (hs : am_step e pc L st (hp 0 M0) = some q) : q.2.2.2 = hp 0 M0 ∧ am_step e pc L st (hp nS M) = some (q.1, q.2.1, q.2.2.1, hp nS M) := by
  obtain ⟨i, len, r1, r2, r3⟩ := e
  cases i
  case getfield c =>
    simp only [am_step, am_getf] at hs ⊢
    replace hs := am_r1_s hs
    obtain ⟨a, r, rfl, hs⟩ := hs
    simp only [am_r1]
    have e1 : (hp nS M).2.2.1 a = gKf nS a := rfl
    have e2 : (hp 0 M0).2.2.1 a = gKf 0 a := rfl
    rw [e1, gKf_1]
    rw [e2] at hs
    by_cases hc : (gKf 0 a).1 = r1 + 3
    · rw [if_pos hc] at hs ⊢
      by_cases ht : am_isI (am_ty r1 r2) = true
      · rw [if_pos ht] at hs ⊢
        cases hs
        refine ⟨rfl, ?_⟩
        simp only [am_alw, ht, Bool.not_true, Bool.false_or, Bool.and_eq_true, decide_eq_true_eq, List.contains_iff_mem] at ha
        have e3 : (hp nS M).2.2.2.2 a r2 = (hp 0 M0).2.2.2.2 a r2 := hM a ha.1 r2 ha.2
        rw [e3]
      · rw [if_neg ht] at hs ⊢
        have e4 : (hp nS M).2.2.2.1 a r2 = gRf a r2 := rfl
        have e5 : (hp 0 M0).2.2.2.1 a r2 = gRf a r2 := rfl
        rw [e5] at hs
        rw [e4]
        cases hg : gRf a r2 with
        | none => rw [hg] at hs; cases hs
        | some b => rw [hg] at hs; cases hs; exact ⟨rfl, rfl⟩
    · rw [if_neg hc] at hs; cases hs
  case iaload =>
    simp only [am_step] at hs ⊢
    replace hs := am_ri_s hs
    obtain ⟨a, i, r, rfl, hs⟩ := hs
    simp only [am_ri]
    simp only [am_alw, Bool.and_eq_true, decide_eq_true_eq, List.contains_iff_mem, bne_iff_ne] at ha
    have e1 : (hp nS M).2.2.1 a = gKf 0 a := gKf_ne ha.2
    have e2 : (hp 0 M0).2.2.1 a = gKf 0 a := rfl
    rw [e1]
    rw [e2] at hs
    have e3 : (hp nS M).2.2.2.2 a i.toNatClampNeg = (hp 0 M0).2.2.2.2 a i.toNatClampNeg := hM a ha.1.1 _ ha.1.2
    rw [e3]
    split at hs
    · rename_i h0
      rw [if_pos h0]
      replace hs := am_at_s hs
      obtain ⟨h1, hs⟩ := hs
      cases hs
      refine ⟨rfl, ?_⟩
      unfold am_at
      rw [if_neg h1]
    · cases hs
  case baload =>
    simp only [am_step] at hs ⊢
    replace hs := am_ri_s hs
    obtain ⟨a, i, r, rfl, hs⟩ := hs
    simp only [am_ri]
    simp only [am_alw, Bool.and_eq_true, decide_eq_true_eq, List.contains_iff_mem, bne_iff_ne] at ha
    have e1 : (hp nS M).2.2.1 a = gKf 0 a := gKf_ne ha.2
    have e2 : (hp 0 M0).2.2.1 a = gKf 0 a := rfl
    rw [e1]
    rw [e2] at hs
    have e3 : (hp nS M).2.2.2.2 a i.toNatClampNeg = (hp 0 M0).2.2.2.2 a i.toNatClampNeg := hM a ha.1.1 _ ha.1.2
    rw [e3]
    split at hs
    · rename_i h0
      rw [if_pos h0]
      replace hs := am_at_s hs
      obtain ⟨h1, hs⟩ := hs
      cases hs
      refine ⟨rfl, ?_⟩
      unfold am_at
      rw [if_neg h1]
    · cases hs
  case arraylength =>
    simp only [am_step] at hs ⊢
    replace hs := am_r1_s hs
    obtain ⟨a, r, rfl, hs⟩ := hs
    simp only [am_r1]
    simp only [am_alw, bne_iff_ne] at ha
    have e1 : (hp nS M).2.2.1 a = gKf 0 a := gKf_ne ha
    have e2 : (hp 0 M0).2.2.1 a = gKf 0 a := rfl
    rw [e1]
    rw [e2] at hs
    split at hs
    · rename_i h0
      rw [if_pos h0]
      cases hs
      exact ⟨rfl, rfl⟩
    · cases hs
  case iinc k n =>
    simp only [am_step] at hs ⊢
    split at hs
    · rename_i x hk
      replace hs := am_sto_s hs
      obtain ⟨h2, rfl⟩ := hs
      refine ⟨rfl, ?_⟩
      unfold am_sto
      exact if_pos h2
    · cases hs
  all_goals first
    | (simp [am_alw] at ha; done)
    | (cases hs; done)
    | (cases hs; exact ⟨rfl, rfl⟩)
    | (simp only [am_step] at hs ⊢; (first
        | (replace hs := am_ldI_s hs; obtain ⟨x, hk, rfl⟩ := hs; refine ⟨rfl, ?_⟩; unfold am_ldI; rw [hk])
        | (replace hs := am_ldL_s hs; obtain ⟨x, hk, rfl⟩ := hs; refine ⟨rfl, ?_⟩; unfold am_ldL; rw [hk])
        | (replace hs := am_ldA_s hs; obtain ⟨x, hk, h8, rfl⟩ := hs; refine ⟨rfl, ?_⟩; unfold am_ldA; rw [hk]; exact if_neg h8)
        | (replace hs := am_stA_s hs; obtain ⟨a, r, rfl, h8, hk, rfl⟩ := hs; refine ⟨rfl, ?_⟩; simp only [am_stA, am_r1, am_sto]; rw [if_neg h8, if_pos hk])
        | (replace hs := am_i1_s hs; obtain ⟨x, r, rfl, hs⟩ := hs; simp only [am_i1]; (first
            | (cases hs; exact ⟨rfl, rfl⟩)
            | (replace hs := am_sto_s hs; obtain ⟨hk, rfl⟩ := hs; refine ⟨rfl, ?_⟩; unfold am_sto; rw [if_pos hk])
            | (unfold am_if at hs ⊢; (split at hs) <;> (replace hs := am_br_s hs; rcases hs with ⟨h1, rfl⟩ | ⟨h1, rfl⟩; (refine ⟨rfl, ?_⟩; unfold am_br; rw [if_pos h1]); (refine ⟨rfl, ?_⟩; unfold am_br; rw [if_neg h1])))
            | (unfold am_tsw at hs ⊢; (split at hs); (rename_i h1; cases hs; exact ⟨rfl, if_pos h1⟩); (rename_i h1; rw [if_neg h1]; (split at hs); (rename_i h2; cases hs; refine ⟨rfl, ?_⟩; rw [h2]); (cases hs)))))
        | (replace hs := am_l1_s hs; obtain ⟨x, r, rfl, hs⟩ := hs; simp only [am_l1]; (first
            | (cases hs; exact ⟨rfl, rfl⟩)
            | (replace hs := am_stL_s hs; obtain ⟨hk, rfl⟩ := hs; refine ⟨rfl, ?_⟩; unfold am_stL; rw [if_pos hk])))
        | (replace hs := am_i2_s hs; obtain ⟨x, y, r, rfl, hs⟩ := hs; simp only [am_i2]; (first
            | (cases hs; exact ⟨rfl, rfl⟩)
            | ((split at hs); (cases hs); (rename_i h1; cases hs; exact ⟨rfl, if_neg h1⟩))
            | (unfold am_cmp at hs ⊢; (split at hs) <;> (replace hs := am_br_s hs; rcases hs with ⟨h1, rfl⟩ | ⟨h1, rfl⟩; (refine ⟨rfl, ?_⟩; unfold am_br; rw [if_pos h1]); (refine ⟨rfl, ?_⟩; unfold am_br; rw [if_neg h1])))))
        | (replace hs := am_l2_s hs; obtain ⟨x, y, r, rfl, hs⟩ := hs; simp only [am_l2]; (first
            | (cases hs; exact ⟨rfl, rfl⟩)
            | ((split at hs); (cases hs); (rename_i h1; cases hs; exact ⟨rfl, if_neg h1⟩))))
        | ((split at hs); (rename_i x hk; replace hs := am_sto_s hs; obtain ⟨h2, rfl⟩ := hs; refine ⟨rfl, ?_⟩; rw [hk]; unfold am_sto; exact if_pos h2); (cases hs))
        | ((split at hs) <;> (first | (cases hs; done) | ((split at hs); (rename_i h1; cases hs; exact ⟨rfl, if_pos h1⟩); (cases hs))))
        | ((split at hs); (rename_i h1; cases hs; exact ⟨rfl, if_pos h1⟩); (cases hs))))
theorem am_recP (mi : Nat) (as : List Value) (nS : Nat) (M0 M : am_M) : am_rec mi as (hp nS M) = am_rec mi as (hp 0 M0) := by
  unfold am_rec
  split
  · rename_i a r
    have e1 : ((hp nS M).2.2.1 a).1 = ((hp 0 M0).2.2.1 a).1 := gKf_1 nS a
    rw [e1]
  · rfl
theorem am_exP_ok {R : List Nat} {M0 M : am_M} {nS : Nat} (hM : am_agr R M0 M) : ∀ (n d mi pc : Nat) (L st : List Value) (x : Option Value × am_H), am_exP R n d mi pc L st (hp 0 M0) = some x → x.2 = hp 0 M0 ∧ am_ex n d mi pc L st (hp nS M) = some (x.1, hp nS M)
  | 0, _, _, _, _, _, _, hs => by cases hs
  | n + 1, d, mi, pc, L, st, x, hs => by
    have ih := am_exP_ok (nS := nS) hM n
    have e1 : am_exP R (n + 1) d mi pc L st (hp 0 M0) = (match am_cF mi pc with | none => none | some e => if am_alw R e st && !(am_kind e.1 == 3 && e.2.2.1 == 6) then am_go (am_exP R n) d mi pc L st (hp 0 M0) e else none) := rfl
    have e2 : am_ex (n + 1) d mi pc L st (hp nS M) = (match am_code mi pc with | none => none | some e => am_go (am_ex n) d mi pc L st (hp nS M) e) := rfl
    rw [e1] at hs
    rw [e2]
    cases hc : am_cF mi pc with
    | none => rw [hc] at hs; cases hs
    | some e =>
      rw [hc] at hs
      rw [am_cF_to hc]
      simp only at hs ⊢
      split at hs
      · rename_i hal
        rw [Bool.and_eq_true] at hal
        obtain ⟨ha, h6⟩ := hal
        unfold am_go at hs ⊢
        split at hs
        · rename_i hk
          rw [if_pos hk]
          cases hq : am_step e pc L st (hp 0 M0) with
          | none => rw [hq] at hs; cases hs
          | some q =>
            rw [hq] at hs
            obtain ⟨h1, h2⟩ := am_stepP (nS := nS) ha hM hq
            rw [h2]
            have hs' : am_exP R n d mi q.1 q.2.1 q.2.2.1 q.2.2.2 = some x := hs
            rw [h1] at hs'
            exact ih _ _ _ _ _ _ hs'
        · rename_i hk
          rw [if_neg hk]
          split at hs
          · rename_i hk1
            rw [if_pos hk1]
            unfold am_retV at hs ⊢
            split at hs
            · split at hs
              · cases hs; exact ⟨rfl, rfl⟩
              · cases hs
            · cases hs
          · rename_i hk1
            rw [if_neg hk1]
            split at hs
            · rename_i hk2
              rw [if_pos hk2]
              unfold am_retI at hs ⊢
              split at hs
              · split at hs
                · rename_i h1
                  split at hs
                  · rename_i h2; cases hs; exact ⟨rfl, if_pos h2⟩
                  · cases hs
                · cases hs
              · cases hs
            · rename_i hk2
              rw [if_neg hk2]
              unfold am_cal at hs ⊢
              split at hs
              · cases hs
              · rename_i d'
                split at hs
                · rename_i h5
                  rw [if_pos h5]
                  replace hs := am_r1_s hs
                  obtain ⟨a, r, rfl, hs⟩ := hs
                  simp only [am_r1]
                  split at hs
                  · rename_i ha'; rw [if_pos ha']; exact ih _ _ _ _ _ _ hs
                  · cases hs
                · rename_i h5
                  rw [if_neg h5]
                  have hk3 : am_kind e.1 = 3 := by
                    have : am_kind e.1 ≤ 3 := by unfold am_kind; split <;> omega
                    omega
                  have h6' : ¬ e.2.2.1 = 6 := by
                    intro z
                    rw [hk3, z] at h6
                    exact absurd h6 (by decide)
                  rw [if_neg h6'] at hs ⊢
                  cases hq : am_take (am_me e.2.2.2.1).2.2.2.2.1 st with
                  | none => rw [hq] at hs; cases hs
                  | some q =>
                    rw [hq] at hs
                    simp only at hs ⊢
                    rw [am_recP _ _ nS M0 M]
                    split at hs
                    · rename_i hcnd
                      rw [if_pos hcnd]
                      cases hw : am_exP R n d' e.2.2.2.1 0 (am_ent e.2.2.2.1 q.1) [] (hp 0 M0) with
                      | none => rw [hw] at hs; cases hs
                      | some w =>
                        rw [hw] at hs
                        obtain ⟨h1, h2⟩ := ih _ _ _ _ _ _ hw
                        rw [h2]
                        simp only at hs ⊢
                        rw [h1] at hs
                        exact ih _ _ _ _ _ _ hs
                    · cases hs
      · cases hs
def am_pv (o : Option (Option Value × am_H)) : Option Int32 := match o with
  | some (some (.int x), _) => some x
  | _ => none
theorem eq_pure {R : List Nat} {M0 M : am_M} {nS n d mi pc : Nat} {L st : List Value} {x : Int32} {Q : Option Value → am_H → Prop} (hM : am_agr R M0 M) (h : am_pv (am_exP R n d mi pc L st (hp 0 M0)) = some x) : am_Wp d mi pc L st (hp nS M) Q = Q (some (.int x)) (hp nS M) := by
  cases hx : am_exP R n d mi pc L st (hp 0 M0) with
  | none => rw [hx] at h; cases h
  | some y =>
    rw [hx] at h
    obtain ⟨h1, h2⟩ := am_exP_ok (nS := nS) hM _ _ _ _ _ _ _ hx
    obtain ⟨y1, y2⟩ := y
    unfold am_pv at h
    split at h
    · rename_i x' h' he
      cases he
      cases h
      exact eq_known ⟨n, _, _, h2, rfl, rfl⟩ Q
    · cases h
