section
/-! WHAT STOOD BEFORE THE LAW stays as it is -/
def am_lo (h h' : am_H) : Prop := 16 ≤ h'.1 ∧ ∀ a, a < 16 → h'.2.2.2.2 a = h.2.2.2.2 a
theorem lo_id {h : am_H} (h16 : 16 ≤ h.1) : am_lo h h := ⟨h16, fun _ _ => rfl⟩
theorem lo_row {h : am_H} (h16 : 16 ≤ h.1) {a : Nat} (ha : 16 ≤ a) (r : Nat → Int32) : ∀ b, b < 16 → am_row h.2.2.2.2 a r b = h.2.2.2.2 b := fun b hb => if_neg (by omega)
theorem lo_putI {h : am_H} (h16 : 16 ≤ h.1) {a : Nat} (ha : 16 ≤ a) (k : Nat) (v : Int32) : am_lo h (am_putI h a k v) := ⟨h16, lo_row h16 ha _⟩
theorem lo_make {h : am_H} (h16 : 16 ≤ h.1) (kd : Nat × Nat) (n : Nat) : am_lo h (am_make h kd n) := ⟨by show 16 ≤ h.1 + 1; omega, lo_row h16 h16 _⟩
theorem lo_ldI {pc k : Nat} {L st : List Value} {h : am_H} {q : am_S} (h16 : 16 ≤ h.1) (hs : am_ldI pc k L st h = some q) : am_lo h q.2.2.2 := by
  unfold am_ldI at hs
  split at hs
  · cases hs; exact lo_id h16
  · cases hs
theorem lo_ldL {pc k : Nat} {L st : List Value} {h : am_H} {q : am_S} (h16 : 16 ≤ h.1) (hs : am_ldL pc k L st h = some q) : am_lo h q.2.2.2 := by
  unfold am_ldL at hs
  split at hs
  · cases hs; exact lo_id h16
  · cases hs
theorem lo_ldA {pc k : Nat} {L st : List Value} {h : am_H} {q : am_S} (h16 : 16 ≤ h.1) (hs : am_ldA pc k L st h = some q) : am_lo h q.2.2.2 := by
  unfold am_ldA at hs
  split at hs
  · split at hs
    · cases hs
    · cases hs; exact lo_id h16
  · cases hs
theorem lo_sto {pc k : Nat} {v : Value} {L st : List Value} {h : am_H} {q : am_S} (h16 : 16 ≤ h.1) (hs : am_sto pc k v L st h = some q) : am_lo h q.2.2.2 := by
  unfold am_sto at hs
  split at hs
  · cases hs; exact lo_id h16
  · cases hs
theorem lo_stL {pc k : Nat} {v : Value} {L st : List Value} {h : am_H} {q : am_S} (h16 : 16 ≤ h.1) (hs : am_stL pc k v L st h = some q) : am_lo h q.2.2.2 := by
  unfold am_stL at hs
  split at hs
  · cases hs; exact lo_id h16
  · cases hs
theorem lo_stA {pc k : Nat} {L st : List Value} {h : am_H} {q : am_S} (h16 : 16 ≤ h.1) (hs : am_stA pc k L st h = some q) : am_lo h q.2.2.2 := by
  unfold am_stA at hs
  obtain ⟨x, r, -, h2⟩ := am_r1_s hs
  split at h2
  · cases h2
  · exact lo_sto h16 h2
theorem lo_br {cd : Prop} [Decidable cd] {tgt pc : Nat} {L st : List Value} {h : am_H} {q : am_S} (h16 : 16 ≤ h.1) (hs : am_br cd tgt pc L st h = some q) : am_lo h q.2.2.2 := by
  unfold am_br at hs
  split at hs
  · cases hs; exact lo_id h16
  · cases hs; exact lo_id h16
theorem lo_if {cd : ClassFile.Cond} {tgt pc : Nat} {x : Int32} {L st : List Value} {h : am_H} {q : am_S} (h16 : 16 ≤ h.1) (hs : am_if cd tgt pc x L st h = some q) : am_lo h q.2.2.2 := by
  cases cd <;> exact lo_br h16 hs
theorem lo_cmp {cd : ClassFile.Cond} {tgt pc : Nat} {x y : Int32} {L st : List Value} {h : am_H} {q : am_S} (h16 : 16 ≤ h.1) (hs : am_cmp cd tgt pc x y L st h = some q) : am_lo h q.2.2.2 := by
  cases cd <;> exact lo_br h16 hs
theorem lo_tsw {d lo hi : Int} {offs : Array Int} {tgt pc : Nat} {x : Int32} {L st : List Value} {h : am_H} {q : am_S} (h16 : 16 ≤ h.1) (hs : am_tsw d lo hi offs tgt pc x L st h = some q) : am_lo h q.2.2.2 := by
  unfold am_tsw at hs
  split at hs
  · cases hs; exact lo_id h16
  · split at hs
    · cases hs; exact lo_id h16
    · cases hs
theorem lo_getf {pc ci k : Nat} {L st : List Value} {h : am_H} {q : am_S} (h16 : 16 ≤ h.1) (hs : am_getf pc ci k L st h = some q) : am_lo h q.2.2.2 := by
  unfold am_getf at hs
  obtain ⟨x, r, -, h2⟩ := am_r1_s hs
  split at h2
  · split at h2
    · cases h2; exact lo_id h16
    · split at h2
      · cases h2; exact lo_id h16
      · cases h2
  · cases h2
theorem lo_putf {pc ci k : Nat} {L st : List Value} {h : am_H} {q : am_S} (h16 : 16 ≤ h.1) (hs : am_putf pc ci k L st h = some q) : am_lo h q.2.2.2 := by
  unfold am_putf at hs
  split at hs
  · unfold am_putI2 at hs
    split at hs
    · split at hs
      · rename_i hc
        split at hs
        · cases hs; exact lo_putI h16 hc.2 _ _
        · cases hs
      · cases hs
    · cases hs
  · obtain ⟨a, b, r, -, h2⟩ := am_rr_s hs
    split at h2
    · cases h2; exact ⟨h16, fun _ _ => rfl⟩
    · cases h2
theorem ite_s {α : Type} {c : Prop} [Decidable c] {a : Option α} {q : α} (h : (if c then a else none) = some q) : c ∧ a = some q := by
  by_cases hc : c
  · rw [if_pos hc] at h; exact ⟨hc, h⟩
  · rw [if_neg hc] at h; cases h
theorem ite_n {α : Type} {c : Prop} [Decidable c] {a : Option α} {q : α} (h : (if c then none else a) = some q) : ¬ c ∧ a = some q := by
  by_cases hc : c
  · rw [if_pos hc] at h; cases h
  · rw [if_neg hc] at h; exact ⟨hc, h⟩
theorem lo_step {e : am_I} {pc : Nat} {L st : List Value} {h : am_H} {q : am_S} (h16 : 16 ≤ h.1) (hs : am_step e pc L st h = some q) : am_lo h q.2.2.2 := by
  unfold am_step at hs
  split at hs
  all_goals first
    | exact lo_ldI h16 hs
    | exact lo_ldL h16 hs
    | exact lo_ldA h16 hs
    | exact lo_stA h16 hs
    | exact lo_getf h16 hs
    | exact lo_putf h16 hs
    | (cases hs; done)
    | (cases hs; exact lo_id h16)
    | (obtain ⟨x, r, -, h2⟩ := am_i1_s hs; first | exact lo_sto h16 h2 | exact lo_if h16 h2 | exact lo_tsw h16 h2 | (cases h2; exact lo_id h16))
    | (obtain ⟨x, y, r, -, h2⟩ := am_i2_s hs; first | exact lo_cmp h16 h2 | (cases h2; exact lo_id h16) | (split at h2 <;> cases h2 <;> exact lo_id h16))
    | (obtain ⟨x, r, -, h2⟩ := am_l1_s hs; first | exact lo_stL h16 h2 | (cases h2; exact lo_id h16))
    | (obtain ⟨x, y, r, -, h2⟩ := am_l2_s hs; first | (cases h2; exact lo_id h16) | (split at h2 <;> cases h2 <;> exact lo_id h16))
    | (cases hs; exact lo_make h16 _ _)
    | (obtain ⟨x, r, -, h2⟩ := am_i1_s hs; obtain ⟨-, h3⟩ := ite_n h2; cases h3; exact lo_make h16 _ _)
    | (obtain ⟨a, r, -, h2⟩ := am_r1_s hs; obtain ⟨-, h3⟩ := ite_s h2; cases h3; exact lo_id h16)
    | (obtain ⟨a, i, r, -, h2⟩ := am_ri_s hs; obtain ⟨-, h3⟩ := ite_s h2; obtain ⟨-, h4⟩ := am_at_s h3; first | (cases h4; exact lo_id h16) | (split at h4 <;> first | (cases h4; exact lo_id h16) | cases h4))
    | (obtain ⟨a, i, v, r, -, h2⟩ := am_rii_s hs; obtain ⟨hc, h3⟩ := ite_s h2; obtain ⟨-, h4⟩ := am_at_s h3; cases h4; exact lo_putI h16 hc.2 _ _)
    | (obtain ⟨a, i, v, r, -, h2⟩ := am_rir_s hs; obtain ⟨hc, h3⟩ := ite_s h2; obtain ⟨-, h4⟩ := am_at_s h3; cases h4; exact ⟨h16, fun _ _ => rfl⟩)
    | (split at hs <;> first | exact lo_sto h16 hs | (obtain ⟨-, h2⟩ := ite_s hs; cases h2; exact lo_id h16) | (cases hs; exact lo_id h16) | cases hs)
    | (obtain ⟨-, h2⟩ := ite_s hs; cases h2; exact lo_id h16)
theorem lo_copy {pc : Nat} {L st : List Value} {h : am_H} {q : am_S} (h16 : 16 ≤ h.1) (hs : am_copy pc L st h = some q) : am_lo h q.2.2.2 := by
  unfold am_copy at hs
  split at hs
  · split at hs
    · rename_i hc
      split at hs
      · cases hs
      · cases hs; exact ⟨h16, lo_row h16 hc.2.2.2.1 _⟩
    · cases hs
  · cases hs
theorem lo_tr {h h1 h2 : am_H} (a : am_lo h h1) (b : am_lo h1 h2) : am_lo h h2 := ⟨b.1, fun i hi => (b.2 i hi).trans (a.2 i hi)⟩
theorem lo_ex : ∀ (n d mi pc : Nat) (L st : List Value) (h : am_H) (x : Option Value × am_H), 16 ≤ h.1 → am_ex n d mi pc L st h = some x → am_lo h x.2
  | 0, _, _, _, _, _, _, _, _, hs => by cases hs
  | n + 1, d, mi, pc, L, st, h, x, h16, hs => by
    have ih := lo_ex n
    have e1 : am_ex (n + 1) d mi pc L st h = (match am_code mi pc with | none => none | some e => am_go (am_ex n) d mi pc L st h e) := rfl
    rw [e1] at hs
    cases hc : am_code mi pc with
    | none => rw [hc] at hs; cases hs
    | some e =>
      rw [hc] at hs
      simp only at hs
      unfold am_go at hs
      split at hs
      · cases hq : am_step e pc L st h with
        | none => rw [hq] at hs; cases hs
        | some q =>
          rw [hq] at hs
          have k := lo_step h16 hq
          exact lo_tr k (ih _ _ _ _ _ _ _ k.1 hs)
      · split at hs
        · unfold am_retV at hs
          split at hs
          · split at hs
            · cases hs; exact lo_id h16
            · cases hs
          · cases hs
        · split at hs
          · unfold am_retI at hs
            split at hs
            · split at hs
              · split at hs
                · cases hs; exact lo_id h16
                · cases hs
              · cases hs
            · cases hs
          · unfold am_cal at hs
            split at hs
            · cases hs
            · split at hs
              · obtain ⟨a, r, -, h2⟩ := am_r1_s hs
                split at h2
                · exact ih _ _ _ _ _ _ _ h16 h2
                · cases h2
              · split at hs
                · cases hq : am_copy pc L st h with
                  | none => rw [hq] at hs; cases hs
                  | some q =>
                    rw [hq] at hs
                    have k := lo_copy h16 hq
                    exact lo_tr k (ih _ _ _ _ _ _ _ k.1 hs)
                · cases hq : am_take (am_me e.2.2.2.1).2.2.2.2.1 st with
                  | none => rw [hq] at hs; cases hs
                  | some q =>
                    rw [hq] at hs
                    simp only at hs
                    split at hs
                    · rename_i d' _ _ _
                      cases hw : am_ex n d' e.2.2.2.1 0 (am_ent e.2.2.2.1 q.1) [] h with
                      | none => rw [hw] at hs; cases hs
                      | some w =>
                        rw [hw] at hs
                        have k := ih _ _ _ _ _ _ _ h16 hw
                        exact lo_tr k (ih _ _ _ _ _ _ _ k.1 hs)
                    · cases hs
/-- a call of both: the script stays in between -/
theorem wp_lo {nS d c : Nat} {Mi M : am_M} {mc mm : Nat} {ac am : List Value} {Q : Option Value → am_H → Prop} (p : prS nS d c Mi mc ac mm am M) (k : ∀ v M1, M1 0 = M 0 → am_Wp d mm 0 am [] (hp nS M1) (Kq nS c Mi v) → Q (some (.int v)) (hp nS M1)) : am_Wp d mc 0 ac [] (hp nS M) Q := by
  obtain ⟨n, r, h', h1, v, M1, e1, e2, h2⟩ := p
  have lo := lo_ex _ _ _ _ _ _ _ _ (by show 16 ≤ 239; omega) h1
  refine ⟨n, r, h', h1, ?_⟩
  rw [e1, e2]
  refine k v M1 ?_ h2
  have := lo.2 0 (by omega)
  rw [e2] at this
  exact this
end
