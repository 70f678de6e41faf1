/-! RULES AS EQUATIONS: my machine is deterministic -/
theorem eq_step {d mi pc : Nat} {L st : List Value} {h : am_H} {Q : Option Value → am_H → Prop} {e : am_I} {q : am_S} (he : am_code mi pc = some e) (hk : am_kind e.1 = 0) (hs : am_step e pc L st h = some q) : am_Wp d mi pc L st h Q = am_Wp d mi q.1 q.2.1 q.2.2.1 q.2.2.2 Q := by
  refine propext ⟨fun ⟨n, r, h', h1, h2⟩ => ?_, wp_step he hk hs⟩
  cases n with
  | zero => cases h1
  | succ n =>
    refine ⟨n, r, h', ?_, h2⟩
    have h3 : (match am_code mi pc with | none => none | some e => am_go (am_ex n) d mi pc L st h e) = some (r, h') := h1
    rw [he] at h3
    have h4 : am_go (am_ex n) d mi pc L st h e = some (r, h') := h3
    unfold am_go at h4
    rw [if_pos hk, hs] at h4
    exact h4
theorem eq_run {d mi : Nat} {Q : Option Value → am_H → Prop} : ∀ (k : Nat) {pc : Nat} {L st : List Value} {h : am_H} {q : am_S}, am_run k mi (pc, L, st, h) = some q → am_Wp d mi pc L st h Q = am_Wp d mi q.1 q.2.1 q.2.2.1 q.2.2.2 Q
  | 0, _, _, _, _, _, hr => by cases hr; rfl
  | n + 1, pc, L, st, h, q, hr => by
    simp only [am_run] at hr
    split at hr
    · cases hr
    · rename_i e he
      split at hr
      · rename_i hk
        split at hr
        · cases hr
        · rename_i q' hq
          exact (eq_step (am_cF_to he) hk hq).trans (eq_run n hr)
      · cases hr
theorem eq_br {d mi pc tgt : Nat} {L L' st r : List Value} {h h' : am_H} {Q : Option Value → am_H → Prop} {e : am_I} {c : Prop} [Decidable c] (he : am_cF mi pc = some e) (hk : am_kind e.1 = 0) (hs : am_step e pc L st h = am_br c tgt pc L' r h') : am_Wp d mi pc L st h Q = if c then am_Wp d mi tgt L' r h' Q else am_Wp d mi (pc + 3) L' r h' Q := by
  have he := am_cF_to he
  unfold am_br at hs
  by_cases hc : c
  · rw [if_pos hc] at hs ⊢; exact eq_step he hk hs
  · rw [if_neg hc] at hs ⊢; exact eq_step he hk hs
theorem eq_if_eq {d mi pc tgt len r2 r3 : Nat} {o : Int} {L r : List Value} {x : Int32} {h : am_H} {Q : Option Value → am_H → Prop} (he : am_cF mi pc = some (.ifCond .eq o, len, tgt, r2, r3)) : am_Wp d mi pc L (.int x :: r) h Q = if x = 0 then am_Wp d mi tgt L r h Q else am_Wp d mi (pc + 3) L r h Q := eq_br he rfl rfl
theorem eq_cmp_eq {d mi pc tgt len r2 r3 : Nat} {o : Int} {L r : List Value} {x y : Int32} {h : am_H} {Q : Option Value → am_H → Prop} (he : am_cF mi pc = some (.if_icmp .eq o, len, tgt, r2, r3)) : am_Wp d mi pc L (.int y :: .int x :: r) h Q = if x = y then am_Wp d mi tgt L r h Q else am_Wp d mi (pc + 3) L r h Q := eq_br he rfl rfl
theorem eq_if_ne {d mi pc tgt len r2 r3 : Nat} {o : Int} {L r : List Value} {x : Int32} {h : am_H} {Q : Option Value → am_H → Prop} (he : am_cF mi pc = some (.ifCond .ne o, len, tgt, r2, r3)) : am_Wp d mi pc L (.int x :: r) h Q = if ¬ x = 0 then am_Wp d mi tgt L r h Q else am_Wp d mi (pc + 3) L r h Q := eq_br he rfl rfl
theorem eq_cmp_ne {d mi pc tgt len r2 r3 : Nat} {o : Int} {L r : List Value} {x y : Int32} {h : am_H} {Q : Option Value → am_H → Prop} (he : am_cF mi pc = some (.if_icmp .ne o, len, tgt, r2, r3)) : am_Wp d mi pc L (.int y :: .int x :: r) h Q = if ¬ x = y then am_Wp d mi tgt L r h Q else am_Wp d mi (pc + 3) L r h Q := eq_br he rfl rfl
theorem eq_if_lt {d mi pc tgt len r2 r3 : Nat} {o : Int} {L r : List Value} {x : Int32} {h : am_H} {Q : Option Value → am_H → Prop} (he : am_cF mi pc = some (.ifCond .lt o, len, tgt, r2, r3)) : am_Wp d mi pc L (.int x :: r) h Q = if x < 0 then am_Wp d mi tgt L r h Q else am_Wp d mi (pc + 3) L r h Q := eq_br he rfl rfl
theorem eq_cmp_lt {d mi pc tgt len r2 r3 : Nat} {o : Int} {L r : List Value} {x y : Int32} {h : am_H} {Q : Option Value → am_H → Prop} (he : am_cF mi pc = some (.if_icmp .lt o, len, tgt, r2, r3)) : am_Wp d mi pc L (.int y :: .int x :: r) h Q = if x < y then am_Wp d mi tgt L r h Q else am_Wp d mi (pc + 3) L r h Q := eq_br he rfl rfl
theorem eq_if_ge {d mi pc tgt len r2 r3 : Nat} {o : Int} {L r : List Value} {x : Int32} {h : am_H} {Q : Option Value → am_H → Prop} (he : am_cF mi pc = some (.ifCond .ge o, len, tgt, r2, r3)) : am_Wp d mi pc L (.int x :: r) h Q = if 0 ≤ x then am_Wp d mi tgt L r h Q else am_Wp d mi (pc + 3) L r h Q := eq_br he rfl rfl
theorem eq_cmp_ge {d mi pc tgt len r2 r3 : Nat} {o : Int} {L r : List Value} {x y : Int32} {h : am_H} {Q : Option Value → am_H → Prop} (he : am_cF mi pc = some (.if_icmp .ge o, len, tgt, r2, r3)) : am_Wp d mi pc L (.int y :: .int x :: r) h Q = if y ≤ x then am_Wp d mi tgt L r h Q else am_Wp d mi (pc + 3) L r h Q := eq_br he rfl rfl
theorem eq_if_gt {d mi pc tgt len r2 r3 : Nat} {o : Int} {L r : List Value} {x : Int32} {h : am_H} {Q : Option Value → am_H → Prop} (he : am_cF mi pc = some (.ifCond .gt o, len, tgt, r2, r3)) : am_Wp d mi pc L (.int x :: r) h Q = if 0 < x then am_Wp d mi tgt L r h Q else am_Wp d mi (pc + 3) L r h Q := eq_br he rfl rfl
theorem eq_cmp_gt {d mi pc tgt len r2 r3 : Nat} {o : Int} {L r : List Value} {x y : Int32} {h : am_H} {Q : Option Value → am_H → Prop} (he : am_cF mi pc = some (.if_icmp .gt o, len, tgt, r2, r3)) : am_Wp d mi pc L (.int y :: .int x :: r) h Q = if y < x then am_Wp d mi tgt L r h Q else am_Wp d mi (pc + 3) L r h Q := eq_br he rfl rfl
theorem eq_if_le {d mi pc tgt len r2 r3 : Nat} {o : Int} {L r : List Value} {x : Int32} {h : am_H} {Q : Option Value → am_H → Prop} (he : am_cF mi pc = some (.ifCond .le o, len, tgt, r2, r3)) : am_Wp d mi pc L (.int x :: r) h Q = if x ≤ 0 then am_Wp d mi tgt L r h Q else am_Wp d mi (pc + 3) L r h Q := eq_br he rfl rfl
theorem eq_cmp_le {d mi pc tgt len r2 r3 : Nat} {o : Int} {L r : List Value} {x y : Int32} {h : am_H} {Q : Option Value → am_H → Prop} (he : am_cF mi pc = some (.if_icmp .le o, len, tgt, r2, r3)) : am_Wp d mi pc L (.int y :: .int x :: r) h Q = if x ≤ y then am_Wp d mi tgt L r h Q else am_Wp d mi (pc + 3) L r h Q := eq_br he rfl rfl
theorem eq_ald {d mi pc a : Nat} {L r : List Value} {i : Int32} {h : am_H} {Q : Option Value → am_H → Prop} {e : am_I} (he : am_cF mi pc = some e) (hi : e.1 = .iaload) {n : Nat} (hK : h.2.2.1 a = (0, n)) (hin : vp_in i n) : am_Wp d mi pc L (.int i :: .ref a :: r) h Q = am_Wp d mi (pc + 1) L (.int (h.2.2.2.2 a i.toNatClampNeg) :: r) h Q := by
  have he := am_cF_to he
  obtain ⟨i', len, r1, r2, r3⟩ := e
  cases hi
  refine eq_step he rfl (q := (pc + 1, L, .int (h.2.2.2.2 a i.toNatClampNeg) :: r, h)) ?_
  simp only [am_step, am_ri, am_at, hK, if_pos]
  rw [if_neg hin]
theorem eq_ast {d mi pc a : Nat} {L r : List Value} {i v : Int32} {h : am_H} {Q : Option Value → am_H → Prop} {e : am_I} (he : am_cF mi pc = some e) (hi : e.1 = .iastore) {n : Nat} (hK : h.2.2.1 a = (0, n)) (ha : 16 ≤ a) (hin : vp_in i n) : am_Wp d mi pc L (.int v :: .int i :: .ref a :: r) h Q = am_Wp d mi (pc + 1) L r (am_putI h a i.toNatClampNeg v) Q := by
  have he := am_cF_to he
  obtain ⟨i', len, r1, r2, r3⟩ := e
  cases hi
  refine eq_step he rfl (q := (pc + 1, L, r, am_putI h a i.toNatClampNeg v)) ?_
  simp only [am_step, am_rii, am_at, hK, ha, and_self, if_pos]
  rw [if_neg hin]
theorem eq_bald {d mi pc a : Nat} {L r : List Value} {i : Int32} {h : am_H} {Q : Option Value → am_H → Prop} {e : am_I} (he : am_cF mi pc = some e) (hi : e.1 = .baload) {n : Nat} (hK : h.2.2.1 a = (2, n)) (hin : vp_in i n) : am_Wp d mi pc L (.int i :: .ref a :: r) h Q = am_Wp d mi (pc + 1) L (.int (h.2.2.2.2 a i.toNatClampNeg) :: r) h Q := by
  have he := am_cF_to he
  obtain ⟨i', len, r1, r2, r3⟩ := e
  cases hi
  refine eq_step he rfl (q := (pc + 1, L, .int (h.2.2.2.2 a i.toNatClampNeg) :: r, h)) ?_
  simp only [am_step, am_ri, am_at, hK, if_pos]
  rw [if_neg hin]
theorem eq_div {d mi pc : Nat} {L r : List Value} {x y : Int32} {h : am_H} {Q : Option Value → am_H → Prop} {e : am_I} (he : am_cF mi pc = some e) (hi : e.1 = .idiv) (hy : ¬ y = 0) : am_Wp d mi pc L (.int y :: .int x :: r) h Q = am_Wp d mi (pc + 1) L (.int (x / y) :: r) h Q := by
  have he := am_cF_to he
  obtain ⟨i', len, r1, r2, r3⟩ := e
  cases hi
  refine eq_step he rfl (q := (pc + 1, L, .int (x / y) :: r, h)) ?_
  simp only [am_step, am_i2]
  rw [if_neg hy]
theorem eq_rem {d mi pc : Nat} {L r : List Value} {x y : Int32} {h : am_H} {Q : Option Value → am_H → Prop} {e : am_I} (he : am_cF mi pc = some e) (hi : e.1 = .irem) (hy : ¬ y = 0) : am_Wp d mi pc L (.int y :: .int x :: r) h Q = am_Wp d mi (pc + 1) L (.int (x - x / y * y) :: r) h Q := by
  have he := am_cF_to he
  obtain ⟨i', len, r1, r2, r3⟩ := e
  cases hi
  refine eq_step he rfl (q := (pc + 1, L, .int (x - x / y * y) :: r, h)) ?_
  simp only [am_step, am_i2]
  rw [if_neg hy]
theorem eq_ldiv {d mi pc : Nat} {L r : List Value} {x y : Int64} {h : am_H} {Q : Option Value → am_H → Prop} {e : am_I} (he : am_cF mi pc = some e) (hi : e.1 = .ldiv) (hy : ¬ y = 0) : am_Wp d mi pc L (.long y :: .long x :: r) h Q = am_Wp d mi (pc + 1) L (.long (x / y) :: r) h Q := by
  have he := am_cF_to he
  obtain ⟨i', len, r1, r2, r3⟩ := e
  cases hi
  refine eq_step he rfl (q := (pc + 1, L, .long (x / y) :: r, h)) ?_
  simp only [am_step, am_l2]
  rw [if_neg hy]
theorem am_ex_det {n n' d mi pc : Nat} {L st : List Value} {h : am_H} {x y : Option Value × am_H} (h1 : am_ex n d mi pc L st h = some x) (h2 : am_ex n' d mi pc L st h = some y) : x = y := by
  have a := am_mores (k := n') h1
  have b := am_mores (k := n) h2
  rw [Nat.add_comm] at b
  exact Option.some.inj (a.symm.trans b)
/-- a run that is known: what holds behind it -/
theorem eq_known {d mi pc : Nat} {L st : List Value} {h : am_H} {r : Option Value} {h' : am_H} (k : am_Wp d mi pc L st h (fun a b => a = r ∧ b = h')) (Q : Option Value → am_H → Prop) : am_Wp d mi pc L st h Q = Q r h' := by
  obtain ⟨n, a, b, h1, rfl, rfl⟩ := k
  refine propext ⟨fun ⟨n', a', b', h2, h3⟩ => ?_, fun hq => ⟨n, a, b, h1, hq⟩⟩
  cases am_ex_det h1 h2
  exact h3
theorem eq_retI {d mi pc : Nat} {L : List Value} {h : am_H} {Q : Option Value → am_H → Prop} {e : am_I} {v : Int32} {t : FieldType} (he : am_cF mi pc = some e) (hk : am_kind e.1 = 2) (ht : (am_me mi).2.2.2.1 = some t) (hv : am_rok t v = true) : am_Wp d mi pc L [.int v] h Q = Q (some (.int v)) h := eq_known (wp_retI (am_cF_to he) hk ht hv ⟨rfl, rfl⟩) Q
theorem eq_retV {d mi pc : Nat} {L : List Value} {h : am_H} {Q : Option Value → am_H → Prop} {e : am_I} (he : am_cF mi pc = some e) (hk : am_kind e.1 = 1) (ht : (am_me mi).2.2.2.1 = none) : am_Wp d mi pc L [] h Q = Q none h := eq_known (wp_retV (am_cF_to he) hk ht ⟨rfl, rfl⟩) Q
theorem eq_call {d mi pc : Nat} {L st : List Value} {h : am_H} {Q : Option Value → am_H → Prop} {e : am_I} {q : List Value × List Value} (he : am_cF mi pc = some e) (hk : am_kind e.1 = 3) (h56 : ¬ (e.2.2.1 = 5 ∨ e.2.2.1 = 6)) (ht : am_take (am_me e.2.2.2.1).2.2.2.2.1 st = some q)
    (hc : (e.2.2.1 = 0 → am_rec e.2.2.2.1 q.1 h = true) ∧ ((e.2.2.1 = 2 ∨ e.2.2.1 = 4) → am_isR q.1 = true)) : am_Wp (d + 1) mi pc L st h Q = am_Wp d e.2.2.2.1 0 (am_ent e.2.2.2.1 q.1) [] h (fun v h1 => am_Wp (d + 1) mi (pc + 3) L (am_ans v q.2) h1 Q) := by
  have he := am_cF_to he
  refine propext ⟨fun ⟨n, r, h', h1, h2⟩ => ?_, wp_call he hk (by simpa using h56) ht hc⟩
  cases n with
  | zero => cases h1
  | succ n =>
    have h3 : (match am_code mi pc with | none => none | some e => am_go (am_ex n) (d + 1) mi pc L st h e) = some (r, h') := h1
    rw [he] at h3
    have h4 : am_go (am_ex n) (d + 1) mi pc L st h e = some (r, h') := h3
    unfold am_go at h4
    rw [if_neg (by rw [hk]; decide), if_neg (by rw [hk]; decide), if_neg (by rw [hk]; decide)] at h4
    unfold am_cal at h4
    have h5 : ¬ e.2.2.1 = 5 := fun z => h56 (Or.inl z)
    have h6 : ¬ e.2.2.1 = 6 := fun z => h56 (Or.inr z)
    simp only [if_neg h5, if_neg h6, ht, if_pos hc] at h4
    cases hw : am_ex n d e.2.2.2.1 0 (am_ent e.2.2.2.1 q.1) [] h with
    | none => rw [hw] at h4; cases h4
    | some w =>
      rw [hw] at h4
      exact ⟨n, w.1, w.2, hw, n, r, h', h4, h2⟩
theorem eq_copy {d mi pc : Nat} {L st : List Value} {h : am_H} {Q : Option Value → am_H → Prop} {e : am_I} {q : am_S} (he : am_cF mi pc = some e) (hk : am_kind e.1 = 3) (h6 : e.2.2.1 = 6) (hs : am_copy pc L st h = some q) : am_Wp (d + 1) mi pc L st h Q = am_Wp (d + 1) mi q.1 q.2.1 q.2.2.1 q.2.2.2 Q := by
  have he := am_cF_to he
  refine propext ⟨fun ⟨n, r, h', h1, h2⟩ => ?_, wp_copy he hk h6 hs⟩
  cases n with
  | zero => cases h1
  | succ n =>
    have h3 : (match am_code mi pc with | none => none | some e => am_go (am_ex n) (d + 1) mi pc L st h e) = some (r, h') := h1
    rw [he] at h3
    have h4 : am_go (am_ex n) (d + 1) mi pc L st h e = some (r, h') := h3
    unfold am_go at h4
    rw [if_neg (by rw [hk]; decide), if_neg (by rw [hk]; decide), if_neg (by rw [hk]; decide)] at h4
    unfold am_cal at h4
    have h5 : ¬ e.2.2.1 = 5 := by omega
    simp only [if_neg h5, if_pos h6, hs] at h4
    exact ⟨n, r, h', h4, h2⟩
theorem am_ans_some (v : Value) (st : List Value) : am_ans (some v) st = v :: st := rfl
theorem am_ans_none (st : List Value) : am_ans none st = st := rfl
/-! how many a method takes, its locals, its answer: a faster look -/
def am_inf : List (List (Nat × Nat × Option FieldType)) := [[(1, 4, (some .boolean)), (1, 1, none), (4, 4, (some .boolean)), (3, 4, (some .int)), (6, 10, none), (3, 3, none), (3, 3, (some .int)), (3, 9, (some .int)), (1, 3, none), (3, 3, (some .boolean)), (2, 2, none), (1, 1, none), (3, 3, (some .int)), (3, 5, (some .int)), (1, 4, none), (2, 4, (some .boolean))],
  [(4, 5, (some .boolean)), (4, 6, (some .boolean)), (2, 2, none), (1, 1, none), (6, 8, (some .int)), (5, 6, none), (3, 8, (some .int)), (3, 3, (some .int)), (2, 4, (some .int)), (4, 6, (some .int)), (1, 1, none), (2, 2, none), (2, 2, none), (1, 1, none), (1, 1, none), (2, 2, none)],
  [(1, 1, none), (3, 3, (some .int)), (6, 7, none), (2, 2, none), (1, 2, none), (1, 1, none), (2, 2, none), (2, 2, (some .boolean)), (1, 1, none), (2, 3, none), (3, 5, (some .boolean)), (1, 3, none), (2, 4, (some .int)), (2, 2, (some .boolean)), (2, 2, (some .boolean)), (3, 4, (some .int))],
  [(4, 7, (some .boolean)), (4, 4, none), (3, 5, (some .int)), (1, 1, (some .int)), (2, 3, (some .boolean)), (2, 2, (some .boolean)), (1, 1, (some .boolean)), (1, 5, (some .boolean)), (2, 4, (some .boolean)), (2, 5, (some .boolean)), (2, 4, (some .boolean)), (2, 2, (some .boolean)), (2, 6, (some .boolean)), (3, 4, (some .int)), (2, 7, (some .boolean)), (2, 4, (some .boolean))],
  [(1, 1, none), (2, 2, (some .int)), (2, 2, (some .int)), (1, 3, none), (2, 4, (some .int)), (2, 6, (some .int)), (3, 5, (some .int)), (1, 4, (some .int)), (1, 4, (some .int)), (1, 4, (some .int)), (1, 3, (some .int)), (1, 4, (some .int)), (2, 2, none), (1, 1, none), (3, 10, (some .int)), (1, 3, (some .int))],
  [(1, 6, (some .int)), (1, 5, (some .int)), (1, 2, (some .int)), (1, 2, (some .int)), (1, 1, (some .int)), (1, 5, (some .int)), (2, 5, (some .int)), (2, 4, (some .int)), (4, 6, (some .int)), (4, 6, (some .int)), (5, 6, (some .int)), (1, 1, none), (6, 7, none), (6, 7, none), (6, 7, none), (3, 5, (some .int))],
  [(2, 6, none), (4, 7, (some .boolean)), (2, 4, none), (4, 7, none), (3, 5, none), (2, 2, none), (1, 1, none), (4, 4, (some .boolean)), (2, 2, (some .boolean)), (4, 4, (some .boolean)), (2, 2, (some .boolean)), (2, 2, (some .boolean)), (3, 3, (some .boolean)), (3, 4, (some .int)), (3, 3, (some .int)), (2, 2, none)],
  [(4, 4, none), (2, 2, none), (3, 3, none), (2, 2, (some .int)), (1, 3, (some .int)), (3, 4, (some .boolean)), (2, 4, none), (2, 4, (some .int)), (2, 4, (some .int)), (2, 4, (some .int)), (1, 1, none), (2, 3, (some .int)), (2, 4, (some .int)), (3, 3, (some .boolean)), (2, 4, (some .int)), (2, 4, (some .int))],
  [(4, 5, (some .boolean)), (4, 5, (some .boolean)), (4, 5, (some .boolean)), (2, 2, none), (2, 5, (some .int)), (6, 6, (some .int)), (2, 2, (some .boolean)), (2, 3, (some .int)), (2, 2, (some .int)), (3, 4, (some .int)), (3, 4, (some .int)), (3, 4, (some .int)), (3, 3, (some .int)), (3, 4, (some .int)), (2, 4, (some .int)), (2, 3, (some .int))],
  [(2, 2, (some .int)), (3, 3, (some .int)), (4, 4, (some .boolean)), (3, 3, (some .int)), (2, 6, (some .int)), (4, 4, (some .int)), (4, 5, (some .int)), (3, 3, (some .int)), (3, 4, (some .int)), (3, 3, (some .int)), (3, 4, (some .int)), (2, 2, (some .int)), (3, 3, (some .int)), (3, 3, (some .int)), (3, 3, (some .int)), (3, 3, (some .int))],
  [(3, 3, (some .int)), (3, 3, (some .int)), (4, 4, (some .int)), (1, 1, (some .boolean)), (2, 2, (some .boolean)), (2, 3, (some .int)), (2, 4, (some .int)), (1, 1, none), (1, 2, (some .boolean)), (2, 3, (some .int)), (2, 3, (some .int)), (4, 4, (some .boolean)), (2, 3, (some .int)), (3, 3, (some .int)), (2, 3, (some .int)), (4, 4, (some .boolean))],
  [(4, 4, (some .boolean)), (2, 2, (some .boolean)), (2, 2, (some .boolean)), (2, 2, (some .boolean)), (6, 6, (some .int)), (2, 3, none), (2, 2, (some .boolean)), (2, 3, (some .int)), (2, 2, (some .int)), (1, 2, none), (2, 2, (some .int)), (2, 2, (some .boolean)), (3, 6, (some .int)), (2, 2, (some .boolean)), (2, 2, (some .boolean)), (1, 2, (some .int))],
  [(2, 2, (some .boolean)), (2, 2, (some .int)), (2, 3, (some .int)), (4, 4, (some .int)), (3, 4, (some .int)), (1, 1, (some .int)), (2, 2, (some .int)), (2, 2, (some .boolean)), (1, 2, (some .int)), (2, 4, (some .int)), (1, 2, (some .int)), (1, 3, (some .int)), (1, 3, (some .int)), (1, 1, (some .boolean)), (1, 2, (some .int)), (1, 2, (some .int))],
  [(1, 2, (some .int)), (2, 2, (some .boolean)), (3, 3, none), (1, 4, (some .int)), (2, 2, none), (1, 2, (some .int)), (2, 2, none), (2, 3, none), (3, 4, none), (2, 2, (some .int)), (4, 4, (some .boolean)), (4, 4, (some .boolean)), (4, 4, (some .boolean)), (2, 2, (some .boolean)), (2, 2, (some .boolean)), (1, 2, none)],
  [(4, 7, none), (3, 3, (some .int)), (4, 5, none), (2, 2, none), (2, 4, (some .int)), (1, 3, (some .int)), (2, 3, none), (2, 4, (some .boolean)), (3, 3, (some .int)), (3, 3, none), (5, 6, (some .int)), (2, 3, (some .int)), (4, 6, (some .int)), (4, 4, (some .int)), (4, 4, (some .int)), (3, 3, (some .int))],
  [(3, 3, (some .int)), (2, 2, (some .boolean)), (2, 2, (some .int)), (2, 2, (some .int)), (2, 4, (some .boolean)), (3, 3, (some .int)), (2, 4, (some .int)), (3, 5, (some .int)), (3, 3, (some .int)), (2, 4, (some .int)), (3, 3, (some .int)), (3, 4, (some .int)), (1, 2, none), (3, 5, (some .int)), (1, 2, none), (2, 3, (some .int))],
  [(2, 2, (some .int)), (3, 5, (some .int)), (2, 6, (some .int)), (3, 6, (some .int)), (3, 5, (some .int)), (2, 10, (some .int)), (1, 4, (some .int)), (3, 3, (some .int)), (4, 4, (some .boolean)), (3, 7, (some .int)), (3, 9, none), (3, 3, (some .boolean)), (3, 4, none), (3, 6, (some .int)), (4, 10, (some .int)), (4, 5, (some .int))],
  [(3, 3, (some .int)), (2, 4, (some .int)), (2, 7, (some .int)), (3, 7, (some .int)), (3, 5, (some .int)), (2, 5, (some .int)), (3, 5, (some .int)), (3, 4, (some .int)), (3, 6, (some .int)), (4, 7, (some .boolean)), (3, 3, (some .boolean)), (3, 3, (some .int)), (3, 8, (some .int)), (2, 4, (some .int)), (3, 3, (some .int)), (5, 8, (some .int))],
  [(4, 6, (some .int)), (5, 6, (some .int)), (2, 3, (some .boolean)), (2, 2, (some .int)), (1, 2, none), (1, 2, none), (2, 2, (some .int)), (3, 5, (some .int)), (2, 2, (some .int)), (2, 2, (some .int)), (1, 1, (some .int)), (2, 4, none), (2, 2, (some .int)), (3, 3, (some .int)), (1, 1, (some .boolean)), (1, 1, (some .int))],
  [(1, 1, (some .byte)), (4, 4, (some .int)), (1, 1, (some .boolean)), (4, 6, (some .int)), (2, 2, (some .char)), (2, 2, (some .char)), (2, 2, none), (3, 3, (some .int)), (2, 2, (some .boolean))]]
def am_iF (mi : Nat) : Nat × Nat × Option FieldType := (am_inf.getD (mi / 16) []).getD (mi % 16) (0, 0, none)
set_option maxRecDepth 100000 in
theorem am_iF_ok : (List.range 313).all (fun mi => decide (am_iF mi = ((am_me mi).2.2.2.2.1, (am_me mi).2.2.1, (am_me mi).2.2.2.1))) = true := by decide +kernel
theorem am_iF_at {mi : Nat} {q : Nat × Nat × Option FieldType} (hm : mi < 313) (h : am_iF mi = q) : (am_me mi).2.2.2.2.1 = q.1 ∧ (am_me mi).2.2.1 = q.2.1 ∧ (am_me mi).2.2.2.1 = q.2.2 := by
  have := List.all_eq_true.mp am_iF_ok mi (List.mem_range.mpr hm)
  rw [decide_eq_true_eq, h] at this
  rw [this]
  exact ⟨rfl, rfl, rfl⟩
theorem am_cF_lt {mi pc : Nat} {e : am_I} (h : am_cF mi pc = some e) : mi < 313 := by
  have := am_code_lt (am_cF_to h)
  rwa [am_ts_len] at this
theorem eq_retI2 {d mi pc : Nat} {L : List Value} {h : am_H} {Q : Option Value → am_H → Prop} {e : am_I} {v : Int32} {t : FieldType} {n m : Nat} (he : am_cF mi pc = some e) (hk : am_kind e.1 = 2) (hi : am_iF mi = (n, m, some t)) (hv : am_rok t v = true) : am_Wp d mi pc L [.int v] h Q = Q (some (.int v)) h := eq_retI he hk (am_iF_at (am_cF_lt he) hi).2.2 hv
theorem eq_retV2 {d mi pc : Nat} {L : List Value} {h : am_H} {Q : Option Value → am_H → Prop} {e : am_I} {n m : Nat} (he : am_cF mi pc = some e) (hk : am_kind e.1 = 1) (hi : am_iF mi = (n, m, none)) : am_Wp d mi pc L [] h Q = Q none h := eq_retV he hk (am_iF_at (am_cF_lt he) hi).2.2
def am_takeN (n : Nat) (st as r : List Value) : Prop := am_take n st = some (as, r)
theorem eq_call2 {d mi pc n m : Nat} {L st as r : List Value} {h : am_H} {Q : Option Value → am_H → Prop} {e : am_I} {o : Option FieldType} (he : am_cF mi pc = some e) (hk : am_kind e.1 = 3) (h56 : ¬ (e.2.2.1 = 5 ∨ e.2.2.1 = 6)) (hi : am_iF e.2.2.2.1 = (n, m, o)) (hm : e.2.2.2.1 < 313) (ht : am_take n st = some (as, r))
    (hc : (e.2.2.1 = 0 → am_rec e.2.2.2.1 as h = true) ∧ ((e.2.2.1 = 2 ∨ e.2.2.1 = 4) → am_isR as = true)) : am_Wp (d + 1) mi pc L st h Q = am_Wp d e.2.2.2.1 0 (as ++ List.replicate (m - as.length) (.retAddr 0)) [] h (fun v h1 => am_Wp (d + 1) mi (pc + 3) L (am_ans v r) h1 Q) := by
  obtain ⟨h1, h2, -⟩ := am_iF_at hm hi
  have h3 := eq_call (Q := Q) (d := d) (L := L) (q := (as, r)) he hk h56 (by rw [h1]; exact ht) hc
  unfold am_ent at h3
  rw [h2] at h3
  exact h3
