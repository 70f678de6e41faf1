/-! MORE RULES: switches, a row of Worlds, arraycopy, booleans -/
theorem eq_tsw_def {d mi pc tgt len r2 r3 : Nat} {df lo hi : Int} {offs : Array Int} {L r : List Value} {x : Int32} {h : am_H} {Q : Option Value → am_H → Prop} (he : am_cF mi pc = some (.tableswitch df lo hi offs, len, tgt, r2, r3)) (hx : x.toInt < lo ∨ hi < x.toInt) : am_Wp d mi pc L (.int x :: r) h Q = am_Wp d mi tgt L r h Q := by
  refine eq_step (am_cF_to he) rfl (q := (tgt, L, r, h)) ?_
  simp only [am_step, am_i1, am_tsw]
  rw [if_pos hx]
theorem eq_lsw_def {d mi pc tgt len r1 r2 r3 : Nat} {df : Int} {ps : Array (Int × Int)} {L r : List Value} {x : Int32} {h : am_H} {Q : Option Value → am_H → Prop} (he : am_cF mi pc = some (.lookupswitch df ps, len, r1, r2, r3)) (hx : Op.lookupswitch.offset ps.toList df x.toInt = df) (ht : ((pc : Int) + df).toNat = tgt := by rfl) : am_Wp d mi pc L (.int x :: r) h Q = am_Wp d mi tgt L r h Q := by
  refine eq_step (am_cF_to he) rfl (q := (tgt, L, r, h)) ?_
  simp only [am_step, am_i1]
  rw [hx, ht]
theorem eq_aal {d mi pc o b : Nat} {L r : List Value} {x i : Int32} {h : am_H} {Q : Option Value → am_H → Prop} {e : am_I} (he : am_cF mi pc = some e) (hi : e.1 = .aaload) {n : Nat} (hK : h.2.2.1 o = (1, n)) (hR : h.2.2.2.1 o i.toNatClampNeg = some b) (hx : x = i) (hin : ¬ (i < 0 ∨ n ≤ i.toNatClampNeg)) : am_Wp d mi pc L (.int x :: .ref o :: r) h Q = am_Wp d mi (pc + 1) L (.ref b :: r) h Q := by
  have he := am_cF_to he
  obtain ⟨i', len, r1, r2, r3⟩ := e
  cases hi
  subst hx
  refine eq_step he rfl (q := (pc + 1, L, .ref b :: r, h)) ?_
  simp only [am_step, am_ri, am_at, hK, if_pos, hR]
  rw [if_neg hin]
theorem vp_in_ex {i : Int32} {n : Nat} (h : vp_in i n) (hn : n < 2147483648) : ∃ k, k < n ∧ i = nI k := by
  rcases pk_ix i (n := n) (by simpa using hn) with h1 | h1 | h1
  · exact absurd (Or.inl h1) h
  · refine absurd (Or.inr ?_) h
    have e1 : n ≤ i.toInt.toNat := by
      have := Int32.le_iff_toInt_le.mp h1
      rw [nI_toInt (by simpa using hn)] at this
      omega
    exact e1
  · exact h1
theorem in_last {i : Int32} (h : vp_in i 6) (c0 : ¬ i = 0) (c1 : ¬ i = 1) (c2 : ¬ i = 2) (c3 : ¬ i = 3) (c4 : ¬ i = 4) : i = 5 := by
  obtain ⟨k, hk, rfl⟩ := vp_in_ex h (by decide)
  match k, hk with
  | 0, _ => exact absurd rfl c0
  | 1, _ => exact absurd rfl c1
  | 2, _ => exact absurd rfl c2
  | 3, _ => exact absurd rfl c3
  | 4, _ => exact absurd rfl c4
  | 5, _ => rfl
  | k + 6, hk => omega
theorem eq_copy2 {d mi pc a b na nb nS : Nat} {L r : List Value} {n : Int32} {M : am_M} {Q : Option Value → am_H → Prop} {e : am_I} (he : am_cF mi pc = some e) (hk : am_kind e.1 = 3) (h6 : e.2.2.1 = 6) (hKa : gKf nS a = (0, na)) (hKb : gKf nS b = (0, nb)) (ha : 16 ≤ a) (hb : 16 ≤ b) (hr : am_sum r ≤ 8) (hn : 0 ≤ n ∧ n.toNatClampNeg ≤ na ∧ n.toNatClampNeg ≤ nb) : am_Wp (d + 1) mi pc L (.int n :: .int 0 :: .ref b :: .int 0 :: .ref a :: r) (hp nS M) Q = am_Wp (d + 1) mi (pc + 3) L r (hp nS (am_row M b (va_cpy (M a) (M b) 0 0 n.toNatClampNeg))) Q := by
  refine eq_copy (q := (pc + 3, L, r, hp nS (am_row M b (va_cpy (M a) (M b) 0 0 n.toNatClampNeg)))) he hk h6 ?_
  have e0 : ((0 : Int32)).toNatClampNeg = 0 := by decide
  have hn0 : ¬ n < 0 := Int32.not_lt.mpr hn.1
  simp only [am_copy, hp, hKa, hKb, e0]
  rw [if_pos ⟨trivial, trivial, ha, hb, hr⟩, if_neg ?_]
  rintro (z | z | z | z | z)
  · exact absurd z (by decide)
  · exact absurd z (by decide)
  · exact hn0 z
  · omega
  · omega
theorem eq_putb {d mi pc ci k len r3 a na nS : Nat} {L r : List Value} {v : Int32} {M : am_M} {Q : Option Value → am_H → Prop} {e : am_I} (he : am_cF mi pc = some e) (hi : e.1 = .putfield r3) (hk : e.2 = (len, ci, k, na) ∧ am_ty ci k = .boolean ∧ (gKf nS a).1 = ci + 3) (ha : 16 ≤ a) (hv : am_fitI .boolean v = true) : am_Wp d mi pc L (.int v :: .ref a :: r) (hp nS M) Q = am_Wp d mi (pc + 3) L r (hp nS (am_up M a k v)) Q := by
  have he := am_cF_to he
  obtain ⟨i', len', r1', r2', r3'⟩ := e
  obtain ⟨hk, ht, hc⟩ := hk
  cases hi
  cases hk
  refine eq_step he rfl (q := (pc + 3, L, r, hp nS (am_up M a k v))) ?_
  simp only [am_step, am_putf, am_putI2, hp, ht, hc, am_isI, if_true, hv]
  rw [if_pos ⟨trivial, ha⟩]
  rfl
theorem rok0 : am_rok .boolean 0 = true := rfl
theorem rok1 : am_rok .boolean 1 = true := rfl
theorem fit0 : am_fitI .boolean 0 = true := rfl
theorem fit1 : am_fitI .boolean 1 = true := rfl
