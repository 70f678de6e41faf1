/-! WHAT A RUN COMES TO: rules -/
theorem am_more : ∀ (n d mi pc : Nat) (L st : List Value) (h : am_H) (x : Option Value × am_H), am_ex n d mi pc L st h = some x → am_ex (n + 1) d mi pc L st h = some x
  | 0, _, _, _, _, _, _, _, hs => by cases hs
  | n + 1, d, mi, pc, L, st, h, x, hs => by
    have ih := am_more n
    have e1 : am_ex (n + 1) d mi pc L st h = (match am_code mi pc with | none => none | some e => am_go (am_ex n) d mi pc L st h e) := rfl
    have e2 : am_ex (n + 1 + 1) d mi pc L st h = (match am_code mi pc with | none => none | some e => am_go (am_ex (n + 1)) d mi pc L st h e) := rfl
    rw [e1] at hs
    rw [e2]
    cases hc : am_code mi pc with
    | none => rw [hc] at hs; cases hs
    | some e =>
      rw [hc] at hs
      simp only at hs ⊢
      unfold am_go at hs ⊢
      split at hs
      · rename_i hk
        rw [if_pos hk]
        cases hq : am_step e pc L st h with
        | none => rw [hq] at hs; cases hs
        | some q => rw [hq] at hs; exact ih _ _ _ _ _ _ _ hs
      · rename_i hk
        rw [if_neg hk]
        split at hs
        · rename_i hk1; rw [if_pos hk1]; exact hs
        · rename_i hk1
          rw [if_neg hk1]
          split at hs
          · rename_i hk2; rw [if_pos hk2]; exact hs
          · rename_i hk2
            rw [if_neg hk2]
            unfold am_cal at hs ⊢
            split at hs
            · cases hs
            · split at hs
              · rename_i h5
                rw [if_pos h5]
                replace hs := am_r1_s hs
                obtain ⟨a, r, rfl, hs⟩ := hs
                show (if _ then _ else _) = _
                split at hs
                · rename_i ha; rw [if_pos ha]; exact ih _ _ _ _ _ _ _ hs
                · cases hs
              · rename_i h5
                rw [if_neg h5]
                split at hs
                · rename_i h6
                  rw [if_pos h6]
                  cases hq : am_copy pc L st h with
                  | none => rw [hq] at hs; cases hs
                  | some q => rw [hq] at hs; exact ih _ _ _ _ _ _ _ hs
                · rename_i h6
                  rw [if_neg h6]
                  cases hq : am_take (am_me e.2.2.2.1).2.2.2.2.1 st with
                  | none => rw [hq] at hs; cases hs
                  | some q =>
                    rw [hq] at hs
                    simp only at hs ⊢
                    split at hs
                    · rename_i hcnd
                      rw [if_pos hcnd]
                      rename_i d'
                      cases hw : am_ex n d' e.2.2.2.1 0 (am_ent e.2.2.2.1 q.1) [] h with
                      | none => rw [hw] at hs; cases hs
                      | some w =>
                        rw [hw] at hs
                        rw [ih _ _ _ _ _ _ _ hw]
                        exact ih _ _ _ _ _ _ _ hs
                    · cases hs
theorem am_mores {n k d mi pc : Nat} {L st : List Value} {h : am_H} {x : Option Value × am_H} (hs : am_ex n d mi pc L st h = some x) : am_ex (n + k) d mi pc L st h = some x := by
  induction k with
  | zero => exact hs
  | succ k ih => exact am_more _ _ _ _ _ _ _ _ ih
/-- from here my machine comes to an end, and Q holds of the answer and the heap -/
def am_Wp (d mi pc : Nat) (L st : List Value) (h : am_H) (Q : Option Value → am_H → Prop) : Prop := ∃ (n : Nat) (r : Option Value) (h' : am_H), am_ex n d mi pc L st h = some (r, h') ∧ Q r h'
theorem wp_mono {d mi pc : Nat} {L st : List Value} {h : am_H} {Q Q' : Option Value → am_H → Prop} (k : am_Wp d mi pc L st h Q) (hq : ∀ r h', Q r h' → Q' r h') : am_Wp d mi pc L st h Q' := by
  obtain ⟨n, r, h', h1, h2⟩ := k
  exact ⟨n, r, h', h1, hq r h' h2⟩
theorem wp_step {d mi pc : Nat} {L st : List Value} {h : am_H} {Q : Option Value → am_H → Prop} {e : am_I} {q : am_S} (he : am_code mi pc = some e) (hk : am_kind e.1 = 0) (hs : am_step e pc L st h = some q) (k : am_Wp d mi q.1 q.2.1 q.2.2.1 q.2.2.2 Q) : am_Wp d mi pc L st h Q := by
  obtain ⟨n, r, h', h1, h2⟩ := k
  refine ⟨n + 1, r, h', ?_, h2⟩
  show (match am_code mi pc with | none => none | some e => am_go (am_ex n) d mi pc L st h e) = _
  rw [he]
  show am_go (am_ex n) d mi pc L st h e = _
  unfold am_go
  rw [if_pos hk, hs]
  exact h1
/-- k plain steps -/
def am_run : Nat → Nat → am_S → Option am_S
  | 0, _, q => some q
  | k + 1, mi, q => match am_code mi q.1 with
    | none => none
    | some e => if am_kind e.1 = 0 then (match am_step e q.1 q.2.1 q.2.2.1 q.2.2.2 with
      | none => none
      | some q' => am_run k mi q') else none
theorem wp_run {d mi : Nat} {Q : Option Value → am_H → Prop} : ∀ (k : Nat) {pc : Nat} {L st : List Value} {h : am_H} {q : am_S}, am_run k mi (pc, L, st, h) = some q → am_Wp d mi q.1 q.2.1 q.2.2.1 q.2.2.2 Q → am_Wp d mi pc L st h Q
  | 0, _, _, _, _, _, hr, k => by cases hr; exact k
  | n + 1, pc, L, st, h, q, hr, k => by
    simp only [am_run] at hr
    split at hr
    · cases hr
    · rename_i e he
      split at hr
      · rename_i hk
        split at hr
        · cases hr
        · rename_i q' hq
          exact wp_step he hk hq (wp_run n hr k)
      · cases hr
theorem wp_retI {d mi pc : Nat} {L : List Value} {h : am_H} {Q : Option Value → am_H → Prop} {e : am_I} {v : Int32} {t : FieldType} (he : am_code mi pc = some e) (hk : am_kind e.1 = 2) (ht : (am_me mi).2.2.2.1 = some t) (hv : am_rok t v = true) (k : Q (some (.int v)) h) : am_Wp d mi pc L [.int v] h Q := by
  refine ⟨1, some (.int v), h, ?_, k⟩
  show (match am_code mi pc with | none => none | some e => am_go (am_ex 0) d mi pc L [.int v] h e) = _
  rw [he]
  show am_go (am_ex 0) d mi pc L [.int v] h e = _
  unfold am_go
  rw [if_neg (by rw [hk]; decide), if_neg (by rw [hk]; decide), if_pos hk]
  unfold am_retI
  simp only [ht, hv, if_pos]
theorem wp_retV {d mi pc : Nat} {L : List Value} {h : am_H} {Q : Option Value → am_H → Prop} {e : am_I} (he : am_code mi pc = some e) (hk : am_kind e.1 = 1) (ht : (am_me mi).2.2.2.1 = none) (k : Q none h) : am_Wp d mi pc L [] h Q := by
  refine ⟨1, none, h, ?_, k⟩
  show (match am_code mi pc with | none => none | some e => am_go (am_ex 0) d mi pc L [] h e) = _
  rw [he]
  show am_go (am_ex 0) d mi pc L [] h e = _
  unfold am_go
  rw [if_neg (by rw [hk]; decide), if_pos hk]
  unfold am_retV
  simp only [ht]
/-- a call -/
theorem wp_call {d mi pc : Nat} {L st : List Value} {h : am_H} {Q : Option Value → am_H → Prop} {e : am_I} {q : List Value × List Value} (he : am_code mi pc = some e) (hk : am_kind e.1 = 3) (h56 : (e.2.2.1 = 5 ∨ e.2.2.1 = 6) = False) (ht : am_take (am_me e.2.2.2.1).2.2.2.2.1 st = some q)
    (hc : (e.2.2.1 = 0 → am_rec e.2.2.2.1 q.1 h = true) ∧ ((e.2.2.1 = 2 ∨ e.2.2.1 = 4) → am_isR q.1 = true)) (k : am_Wp d e.2.2.2.1 0 (am_ent e.2.2.2.1 q.1) [] h (fun v h1 => am_Wp (d + 1) mi (pc + 3) L (am_ans v q.2) h1 Q)) : am_Wp (d + 1) mi pc L st h Q := by
  obtain ⟨n, v, h1, h2, n', r, h', h3, h4⟩ := k
  have h5 : ¬ e.2.2.1 = 5 := fun z => h56 ▸ (Or.inl z : e.2.2.1 = 5 ∨ e.2.2.1 = 6)
  have h6 : ¬ e.2.2.1 = 6 := fun z => h56 ▸ (Or.inr z : e.2.2.1 = 5 ∨ e.2.2.1 = 6)
  refine ⟨n + n' + 1, r, h', ?_, h4⟩
  show (match am_code mi pc with | none => none | some e => am_go (am_ex (n + n')) (d + 1) mi pc L st h e) = _
  rw [he]
  show am_go (am_ex (n + n')) (d + 1) mi pc L st h e = _
  unfold am_go
  rw [if_neg (by rw [hk]; decide), if_neg (by rw [hk]; decide), if_neg (by rw [hk]; decide)]
  unfold am_cal
  simp only [if_neg h5, if_neg h6, ht, if_pos hc, am_mores (k := n') h2]
  have h7 := am_mores (k := n) h3
  rw [Nat.add_comm] at h7
  exact h7
theorem wp_obj {d mi pc a : Nat} {L r : List Value} {h : am_H} {Q : Option Value → am_H → Prop} {e : am_I} (he : am_code mi pc = some e) (hk : am_kind e.1 = 3) (h5 : e.2.2.1 = 5) (ha : a ≠ 8 ∧ am_sum r ≤ 8) (k : am_Wp (d + 1) mi (pc + 3) L r h Q) : am_Wp (d + 1) mi pc L (.ref a :: r) h Q := by
  obtain ⟨n, v, h1, h2, h3⟩ := k
  refine ⟨n + 1, v, h1, ?_, h3⟩
  show (match am_code mi pc with | none => none | some e => am_go (am_ex n) (d + 1) mi pc L (.ref a :: r) h e) = _
  rw [he]
  show am_go (am_ex n) (d + 1) mi pc L (.ref a :: r) h e = _
  unfold am_go
  rw [if_neg (by rw [hk]; decide), if_neg (by rw [hk]; decide), if_neg (by rw [hk]; decide)]
  unfold am_cal
  simp only [if_pos h5, am_r1, if_pos ha]
  exact h2
theorem wp_copy {d mi pc : Nat} {L st : List Value} {h : am_H} {Q : Option Value → am_H → Prop} {e : am_I} {q : am_S} (he : am_code mi pc = some e) (hk : am_kind e.1 = 3) (h6 : e.2.2.1 = 6) (hs : am_copy pc L st h = some q) (k : am_Wp (d + 1) mi q.1 q.2.1 q.2.2.1 q.2.2.2 Q) : am_Wp (d + 1) mi pc L st h Q := by
  obtain ⟨n, v, h1, h2, h3⟩ := k
  refine ⟨n + 1, v, h1, ?_, h3⟩
  show (match am_code mi pc with | none => none | some e => am_go (am_ex n) (d + 1) mi pc L st h e) = _
  rw [he]
  show am_go (am_ex n) (d + 1) mi pc L st h e = _
  unfold am_go
  rw [if_neg (by rw [hk]; decide), if_neg (by rw [hk]; decide), if_neg (by rw [hk]; decide)]
  unfold am_cal
  have h5 : ¬ e.2.2.1 = 5 := by omega
  simp only [if_neg h5, if_pos h6, hs]
  exact h2
