section
/-! THE MODEL READS IT -/
abbrev PM (tp : Nat → Nat) (n N j : Nat) (c : CS) (M0 M : am_M) : Prop := (AT tp n j M) ∧ (j ≤ N) ∧ (M 205 29 = nI c.1) ∧ (∀ i, i < c.1 → M 219 (800 + i) = opM (c.2 i)) ∧ (∀ i, i < c.1 → M 220 (800 + i) = arM (c.2 i)) ∧ (∀ a k, ¬ ((a = 205 ∧ (k = 16 ∨ k = 17 ∨ k = 18 ∨ k = 19 ∨ k = 29)) ∨ ((a = 219 ∨ a = 220) ∧ 800 ≤ k)) → M a k = M0 a k)
theorem PM.a {tp : Nat → Nat} {n N j : Nat} {c : CS} {M0 M : am_M} (zz : PM tp n N j c M0 M) : AT tp n j M := zz.1
theorem PM.jn {tp : Nat → Nat} {n N j : Nat} {c : CS} {M0 M : am_M} (zz : PM tp n N j c M0 M) : j ≤ N := zz.2.1
theorem PM.u {tp : Nat → Nat} {n N j : Nat} {c : CS} {M0 M : am_M} (zz : PM tp n N j c M0 M) : M 205 29 = nI c.1 := zz.2.2.1
theorem PM.op {tp : Nat → Nat} {n N j : Nat} {c : CS} {M0 M : am_M} (zz : PM tp n N j c M0 M) : ∀ i, i < c.1 → M 219 (800 + i) = opM (c.2 i) := zz.2.2.2.1
theorem PM.ar {tp : Nat → Nat} {n N j : Nat} {c : CS} {M0 M : am_M} (zz : PM tp n N j c M0 M) : ∀ i, i < c.1 → M 220 (800 + i) = arM (c.2 i) := zz.2.2.2.2.1
theorem PM.f {tp : Nat → Nat} {n N j : Nat} {c : CS} {M0 M : am_M} (zz : PM tp n N j c M0 M) : ∀ a k, ¬ ((a = 205 ∧ (k = 16 ∨ k = 17 ∨ k = 18 ∨ k = 19 ∨ k = 29)) ∨ ((a = 219 ∨ a = 220) ∧ 800 ≤ k)) → M a k = M0 a k := zz.2.2.2.2.2
abbrev FM (tp : Nat → Nat) (n : Nat) (e : Nat × Nat) (M0 M : am_M) : Prop := (M 205 33 = nI e.1) ∧ (M 205 34 = nI (ps tp n e.2)) ∧ (∀ a k, ¬ ((a = 205 ∧ (k = 16 ∨ k = 17 ∨ k = 18 ∨ k = 19 ∨ k = 29 ∨ k = 30 ∨ k = 32 ∨ k = 33 ∨ k = 34)) ∨ a = 221 ∨ ((a = 219 ∨ a = 220) ∧ 800 ≤ k)) → M a k = M0 a k)
theorem FM.k {tp : Nat → Nat} {n : Nat} {e : Nat × Nat} {M0 M : am_M} (zz : FM tp n e M0 M) : M 205 33 = nI e.1 := zz.1
theorem FM.p {tp : Nat → Nat} {n : Nat} {e : Nat × Nat} {M0 M : am_M} (zz : FM tp n e M0 M) : M 205 34 = nI (ps tp n e.2) := zz.2.1
theorem FM.f {tp : Nat → Nat} {n : Nat} {e : Nat × Nat} {M0 M : am_M} (zz : FM tp n e M0 M) : ∀ a k, ¬ ((a = 205 ∧ (k = 16 ∨ k = 17 ∨ k = 18 ∨ k = 19 ∨ k = 29 ∨ k = 30 ∨ k = 32 ∨ k = 33 ∨ k = 34)) ∨ a = 221 ∨ ((a = 219 ∨ a = 220) ∧ 800 ≤ k)) → M a k = M0 a k := zz.2.2
/-- a tape of the model with its tokens -/
abbrev TT (tp : Nat → Nat) (n N : Nat) (M : am_M) : Prop := (TM M n tp) ∧ (TE (kK tp n) (kV tp n) N)
theorem TT.m {tp : Nat → Nat} {n N : Nat} {M : am_M} (zz : TT tp n N M) : TM M n tp := zz.1
theorem TT.e {tp : Nat → Nat} {n N : Nat} {M : am_M} (zz : TT tp n N M) : TE (kK tp n) (kV tp n) N := zz.2
theorem PM_t {tp : Nat → Nat} {n N j : Nat} {c : CS} {M0 M : am_M} (hT : TT tp n N M0) (h : PM tp n N j c M0 M) : TM M n tp := ⟨by rw [h.f _ _ (by omega)]; exact hT.m.n, fun k hk => by rw [h.f _ _ (by omega)]; exact hT.m.t k hk, hT.m.l, hT.m.b, fun k hk => by rw [h.f _ _ (by omega)]; exact hT.m.w k hk⟩
theorem m_emit {d nS n N j : Nat} {tp : Nat → Nat} {c : CS} {M0 : am_M} {y : Cd} {x1 x2 : Int32} {M : am_M} {Q : Option Value → am_H → Prop} (h : PM tp n N j c M0 M) (hc : c.1 < 400) (h1 : x1 = opM y) (h2 : x2 = arM y) (hQ : ∀ M', PM tp n N j (put c y) M0 M' → Q none (hp nS M')) : am_Wp d 210 0 [.ref 205, .int x1, .int x2] [] (hp nS M) Q := by
  subst h1 h2
  have u1 : am_up M 219 (800 + c.1) (opM y) 205 29 = nI c.1 := by rw [up_ne _ _ _ (by decide)]; exact h.u
  have u2 : am_up (am_up M 219 (800 + c.1) (opM y)) 220 (800 + c.1) (arM y) 205 29 = nI c.1 := by rw [up_ne _ _ _ (by decide)]; exact u1
  have a8 : (800 : Int32) + nI c.1 = nI (800 + c.1) := adl 800 c.1
  rw [c_210 (by rw [h.u, a8]; exact in_n (by omega) (by omega)) (by rw [h.u, a8, cl_n (by omega), u1, a8]; exact in_n (by omega) (by omega)), h.u, a8, cl_n (by omega), u1, a8, cl_n (by omega), u2, nI_1]
  refine hQ _ ⟨AT_f h.a (fun k hk => by rw [up_pt _ _ (by omega), up_pt _ _ (by omega), up_pt _ _ (by omega)]), h.jn, by rw [up_same, upd_same]; rfl, fun i hi => ?_, fun i hi => ?_, fun a k hk => by rw [up_pt _ _ (by omega), up_pt _ _ (by omega), up_pt _ _ (by omega)]; exact h.f a k hk⟩
  · have hi : i < c.1 + 1 := hi
    show _ = opM (if i = c.1 then y else c.2 i)
    rw [up_ne _ _ _ (by decide), up_ne _ _ _ (by decide), up_same, upd_at]
    by_cases e : i = c.1
    · rw [if_pos (by omega), if_pos e]
    · rw [if_neg (by omega), if_neg e]; exact h.op i (by omega)
  · have hi : i < c.1 + 1 := hi
    show _ = arM (if i = c.1 then y else c.2 i)
    rw [up_ne _ _ _ (by decide), up_same, upd_at]
    by_cases e : i = c.1
    · rw [if_pos (by omega), if_pos e]
    · rw [if_neg (by omega), if_neg e, up_ne _ _ _ (by decide)]; exact h.ar i (by omega)
theorem m_nx {d nS n N j : Nat} {tp : Nat → Nat} {c : CS} {M0 : am_M} {M : am_M} {Q : Option Value → am_H → Prop} (hT : TT tp n N M0) (h : PM tp n N j c M0 M) (hj : j + 1 ≤ N) (hQ : ∀ M', PM tp n N (j + 1) c M0 M' → Q none (hp nS M')) : am_Wp (d + 3) 185 0 [.ref 205, .retAddr 0] [] (hp nS M) Q := by
  refine m_reads (PM_t hT h) h.a.s (mS_le tp n j) (mS_ps tp n j) (fun M' ha hf => ?_)
  exact hQ M' ⟨ha, hj, by rw [hf _ _ (by omega)]; exact h.u, fun i hi => by rw [hf _ _ (by omega)]; exact h.op i hi, fun i hi => by rw [hf _ _ (by omega)]; exact h.ar i hi, fun a k hk => by rw [hf _ _ (by omega)]; exact h.f a k hk⟩
theorem m_err {d nS n N j x : Nat} {tp : Nat → Nat} {c : CS} {M0 : am_M} {M : am_M} {Q : Option Value → am_H → Prop} (h : PM tp n N j c M0 M) (hQ : ∀ M', FM tp n (x, j) M0 M' → Q (some (.int (-1))) (hp nS M')) : am_Wp d 193 0 [.ref 205, .int (nI x)] [] (hp nS M) Q := by
  rw [c_193, up_pt _ _ (by omega), h.a.f]
  exact hQ _ ⟨by rw [up_pt _ _ (by omega), up_same, upd_same], by rw [up_same, upd_same], fun a k hk => by rw [up_pt _ _ (by omega), up_pt _ _ (by omega)]; exact h.f a k (by omega)⟩
theorem sgB_b : (List.range 10).all (fun s => (List.range 10).all (fun t => decide ((sgB s = sgB t) = (s = t))) && decide (sgB s < 256)) = true := by decide +kernel
theorem sgB_i {s t : Nat} (hs : s < 10) (ht : t < 10) : ((sgB s = sgB t) = (s = t)) ∧ sgB s < 256 := by
  have h := List.all_eq_true.mp sgB_b s (List.mem_range.mpr hs)
  rw [Bool.and_eq_true, decide_eq_true_eq] at h
  exact ⟨of_decide_eq_true (List.all_eq_true.mp h.1 t (List.mem_range.mpr ht)), h.2⟩
theorem k_s {M : am_M} {k v s : Nat} (h : MTk M k v) (hk : k ≤ 38) (hs : s < 10) : (M 205 18 = 4 ∧ M 205 19 = nI (sgB s)) ↔ k = 26 + s := by
  rcases Nat.lt_or_ge k 26 with c | c
  · obtain ⟨e1, e2⟩ := h.w c
    rw [e1]
    exact ⟨fun z => absurd z.1 (by decide), fun z => by omega⟩
  rcases Nat.lt_or_ge k 36 with c2 | c2
  · obtain ⟨e1, e2⟩ := h.s c c2
    have hb := sgB_i (s := k - 26) (t := s) (by omega) hs
    have hb2 := sgB_i (s := s) (t := s) hs hs
    rw [e1, e2, eq_n (by omega) (by omega), hb.1]
    exact ⟨fun z => by omega, fun z => ⟨rfl, by omega⟩⟩
  · have : k = 36 ∨ k = 37 ∨ k = 38 := by omega
    rcases this with q | q | q
    · rw [(h.n q).1]; exact ⟨fun z => absurd z.1 (by decide), fun z => by omega⟩
    · rw [h.e q]; exact ⟨fun z => absurd z.1 (by decide), fun z => by omega⟩
    · rw [h.o q]; exact ⟨fun z => absurd z.1 (by decide), fun z => by omega⟩
theorem k_w {M : am_M} {k v w : Nat} (h : MTk M k v) (hk : k ≤ 38) (hw : w < 26) : (M 205 18 = 2 ∧ M 205 19 = nI w) ↔ k = w := by
  rcases Nat.lt_or_ge k 26 with c | c
  · obtain ⟨e1, e2⟩ := h.w c
    rw [e1, e2, eq_n (by omega) (by omega)]
    exact ⟨fun z => z.2, fun z => ⟨rfl, z⟩⟩
  rcases Nat.lt_or_ge k 36 with c2 | c2
  · rw [(h.s c c2).1]; exact ⟨fun z => absurd z.1 (by decide), fun z => by omega⟩
  · have : k = 36 ∨ k = 37 ∨ k = 38 := by omega
    rcases this with q | q | q
    · rw [(h.n q).1]; exact ⟨fun z => absurd z.1 (by decide), fun z => by omega⟩
    · rw [h.e q]; exact ⟨fun z => absurd z.1 (by decide), fun z => by omega⟩
    · rw [h.o q]; exact ⟨fun z => absurd z.1 (by decide), fun z => by omega⟩
theorem k_n {M : am_M} {k v : Nat} (h : MTk M k v) (hk : k ≤ 38) : M 205 18 = 3 ↔ k = 36 := by
  rcases Nat.lt_or_ge k 26 with c | c
  · rw [(h.w c).1]; exact ⟨fun z => absurd z (by decide), fun z => by omega⟩
  rcases Nat.lt_or_ge k 36 with c2 | c2
  · rw [(h.s c c2).1]; exact ⟨fun z => absurd z (by decide), fun z => by omega⟩
  · have : k = 36 ∨ k = 37 ∨ k = 38 := by omega
    rcases this with q | q | q
    · rw [(h.n q).1]; exact ⟨fun _ => q, fun _ => rfl⟩
    · rw [h.e q]; exact ⟨fun z => absurd z (by decide), fun z => by omega⟩
    · rw [h.o q]; exact ⟨fun z => absurd z (by decide), fun z => by omega⟩
theorem k_e {M : am_M} {k v : Nat} (h : MTk M k v) (hk : k ≤ 38) : M 205 18 = 0 ↔ k = 37 := by
  rcases Nat.lt_or_ge k 26 with c | c
  · rw [(h.w c).1]; exact ⟨fun z => absurd z (by decide), fun z => by omega⟩
  rcases Nat.lt_or_ge k 36 with c2 | c2
  · rw [(h.s c c2).1]; exact ⟨fun z => absurd z (by decide), fun z => by omega⟩
  · have : k = 36 ∨ k = 37 ∨ k = 38 := by omega
    rcases this with q | q | q
    · rw [(h.n q).1]; exact ⟨fun z => absurd z (by decide), fun z => by omega⟩
    · rw [h.e q]; exact ⟨fun _ => q, fun _ => rfl⟩
    · rw [h.o q]; exact ⟨fun z => absurd z (by decide), fun z => by omega⟩
theorem m_isS {d nS n N j s : Nat} {tp : Nat → Nat} {c : CS} {M0 : am_M} {M : am_M} {Q : Option Value → am_H → Prop} (h : PM tp n N j c M0 M) (hs : s < 10) : am_Wp d 199 0 [.ref 205, .int (nI (sgB s))] [] (hp nS M) Q = Q (some (.int (bI (decide (kK tp n j = 26 + s))))) (hp nS M) := by
  rw [c_199]
  refine congrArg (fun v => Q (some (.int v)) (hp nS M)) (ite_b ?_)
  rw [decide_eq_true_eq, ← k_s h.a.k (kK_38 tp n j) hs]
  exact ⟨fun z => ⟨Classical.byContradiction z.1, Classical.byContradiction z.2⟩, fun z => ⟨fun q => q z.1, fun q => q z.2⟩⟩
theorem m_is {d nS n N j : Nat} {tp : Nat → Nat} {c : CS} {M0 : am_M} {M : am_M} {Q : Option Value → am_H → Prop} (h : PM tp n N j c M0 M) (x : Int32) (k s : Nat) (hs : s < 10) (hx : x = nI (sgB s)) (hk : k = 26 + s) : am_Wp d 199 0 [.ref 205, .int x] [] (hp nS M) Q = Q (some (.int (bI (decide (kK tp n j = k))))) (hp nS M) := by
  subst hx hk
  exact m_isS h hs
theorem m_isW {d nS n N j w : Nat} {tp : Nat → Nat} {c : CS} {M0 : am_M} {M : am_M} {Q : Option Value → am_H → Prop} (h : PM tp n N j c M0 M) (hw : w < 26) : am_Wp d 192 0 [.ref 205, .int (nI w)] [] (hp nS M) Q = Q (some (.int (bI (decide (kK tp n j = w))))) (hp nS M) := by
  rw [c_192]
  refine congrArg (fun v => Q (some (.int v)) (hp nS M)) (ite_b ?_)
  rw [decide_eq_true_eq, ← k_w h.a.k (kK_38 tp n j) hw]
  exact ⟨fun z => ⟨Classical.byContradiction z.1, Classical.byContradiction z.2⟩, fun z => ⟨fun q => q z.1, fun q => q z.2⟩⟩
theorem bI_d0 {C : Prop} [Decidable C] : (bI (decide C) = 0) = ¬ C := by
  by_cases h : C
  · rw [decide_eq_true h]; exact propext ⟨fun z => absurd z (by decide), fun z => absurd h z⟩
  · rw [decide_eq_false h]; exact propext ⟨fun _ => h, fun _ => rfl⟩
theorem ifb_t {C : Prop} [Decidable C] {α : Type} {a b : α} (h : C) : (if bI (decide C) = 0 then a else b) = b := by rw [decide_eq_true h]; exact if_neg (by decide)
theorem ifb_f {C : Prop} [Decidable C] {α : Type} {a b : α} (h : ¬ C) : (if bI (decide C) = 0 then a else b) = a := by rw [decide_eq_false h]; exact if_pos rfl
theorem ifn_t {C : Prop} [Decidable C] {α : Type} {a b : α} (h : C) : (if ¬ bI (decide C) = 0 then a else b) = a := by rw [decide_eq_true h]; exact if_pos (by decide)
theorem ifn_f {C : Prop} [Decidable C] {α : Type} {a b : α} (h : ¬ C) : (if ¬ bI (decide C) = 0 then a else b) = b := by rw [decide_eq_false h]; exact if_neg (fun z => z rfl)
theorem m1n : ¬ ((0 : Int32) = -1) := by decide
theorem m_unit {d nS n N j : Nat} {tp : Nat → Nat} {c : CS} {M0 : am_M} {M : am_M} {Q : Option Value → am_H → Prop} (hT : TT tp n N M0) (h : PM tp n N j c M0 M) (hc : c.1 ≤ j) (hE : ∀ e M', pU (kK tp n) (kV tp n) false j c = .error e → FM tp n e M0 M' → Q (some (.int (-1))) (hp nS M')) (hO : ∀ q M', pU (kK tp n) (kV tp n) false j c = .ok q → PM tp n N q.1 q.2 M0 M' → Q (some (.int 0)) (hp nS M')) : am_Wp (d + 4) 208 0 [.ref 205, .retAddr 0] [] (hp nS M) Q := by
  have hl := hT.e.l
  have hj := h.jn
  have hk38 := kK_38 tp n j
  unfold pU at hE hO
  have en := k_n h.a.k hk38
  generalize hK : kK tp n j = k at *
  have hat := h.a.k
  rw [hK] at hat
  -- behind the test whether a word is asked
  have done : ∀ x1 y a1 a2, ¬ (¬ k = 36 ∧ (false = true ∨ k < 7 ∨ 15 < k)) → (y = if k = 36 then Cd.num (kV tp n j) else Cd.ask (k - 7)) → a1 = opM y → a2 = arM y → am_Wp (d + 4) 208 71 [.ref 205, .int x1] [.int a2, .int a1, .ref 205] (hp nS M) Q := by
    intro x1 y a1 a2 c1 hy h1 h2
    have hj1 : j + 1 ≤ N := TE_s hT.e hj (by rw [hK]; omega)
    rw [b_208_71]
    refine m_emit h (by omega) h1 h2 (fun M1 g1 => ?_)
    rw [am_ans_none, b_208_74]
    refine m_nx hT g1 hj1 (fun M2 g2 => ?_)
    rw [am_ans_none, b_208_78]
    exact hO (j + 1, put c y) M2 (by rw [if_neg c1, if_neg (fun z => by cases z.1), hy]) g2
  have noask : ¬ (7 ≤ k ∧ k ≤ 15) → am_Wp (d + 4) 208 23 [.ref 205, .retAddr 0] [] (hp nS M) Q := by
    intro na
    rw [b_208_23, b_208_24, if_neg (fun z => z rfl), b_208_29]
    by_cases c36 : k = 36
    · rw [if_pos (en.mpr c36), b_208_43, if_pos rfl, b_208_52, b_208_53, if_pos rfl, b_208_67, (hat.n c36).2]
      exact done 0 (Cd.num (kV tp n j)) _ _ (fun z => z.1 c36) (by rw [if_pos c36]) rfl rfl
    · rw [if_neg (fun z => c36 (en.mp z)), b_208_37]
      refine m_err (x := 1) h (fun M' hf => ?_)
      rw [am_ans_some, b_208_42]
      exact hE (1, j) M' (by rw [if_pos ⟨c36, Or.inr (by omega)⟩]) hf
  rw [b_208_0]
  by_cases c26 : k < 26
  · obtain ⟨e1, e2⟩ := hat.w c26
    rw [if_neg (fun z => z e1), b_208_8, e2, c_209, am_ans_some, b_208_16]
    by_cases ca : 7 ≤ k ∧ k ≤ 15
    · rw [ite0_t ⟨by rw [li, lt_n (by omega) (by omega)]; omega, by rw [li, lt_n (by omega) (by omega)]; omega⟩, b_208_19, b_208_24, if_pos bn1, b_208_43, if_neg bn1, b_208_48, b_208_53, if_neg bn1, b_208_57, e2]
      refine done 1 (Cd.ask (k - 7)) _ _ (fun z => z.2.elim (fun q => by cases q) (fun q => by omega)) (by rw [if_neg (by omega)]) rfl ?_
      exact pk_sub (b := 7) (by omega)
    · rw [ite0_f (fun z => ca ⟨by have := z.1; rw [li, lt_n (by omega) (by omega)] at this; omega, by have := z.2; rw [li, lt_n (by omega) (by omega)] at this; omega⟩)]
      exact noask ca
  · rw [if_pos (fun z => ?_)]
    · exact noask (by omega)
    · rcases Nat.lt_or_ge k 36 with c2 | c2
      · rw [(hat.s (by omega) c2).1] at z; exact absurd z (by decide)
      · have : k = 36 ∨ k = 37 ∨ k = 38 := by omega
        rcases this with q | q | q
        · rw [(hat.n q).1] at z; exact absurd z (by decide)
        · rw [hat.e q] at z; exact absurd z (by decide)
        · rw [hat.o q] at z; exact absurd z (by decide)
theorem pU_tf {K V : Nat → Nat} {j : Nat} {c : CS} (h1 : K j = 36) (h2 : ¬ V j = 0) : pU K V true j c = pU K V false j c := by
  have e1 : pU K V true j c = .ok (j + 1, put c (if K j = 36 then Cd.num (V j) else Cd.ask (K j - 7))) := by
    unfold pU
    rw [if_neg (show ¬ (¬ K j = 36 ∧ (true = true ∨ K j < 7 ∨ 15 < K j)) from fun z => z.1 h1), if_neg (show ¬ (true = true ∧ V j = 0) from fun z => h2 z.2)]
  have e2 : pU K V false j c = .ok (j + 1, put c (if K j = 36 then Cd.num (V j) else Cd.ask (K j - 7))) := by
    unfold pU
    rw [if_neg (show ¬ (¬ K j = 36 ∧ (false = true ∨ K j < 7 ∨ 15 < K j)) from fun z => z.1 h1), if_neg (show ¬ (false = true ∧ V j = 0) from fun z => by cases z.1)]
  rw [e1, e2]
/-- where the model is behind a product: w 0 the first, else one that waits -/
def GW (D w : Nat) (Q : Option Value → am_H → Prop) : Option Value → am_H → Prop := fun v h1 => if w = 0 then am_Wp (D + 1) 206 4 [.ref 205, .retAddr 0] (am_ans v []) h1 Q else am_Wp (D + 1) 206 51 [.ref 205, .int (nI w)] (am_ans v []) h1 Q
theorem GW_no {D w nS : Nat} {M : am_M} {Q : Option Value → am_H → Prop} (h : Q (some (.int (-1))) (hp nS M)) : GW D w Q (some (.int (-1))) (hp nS M) := by
  unfold GW
  by_cases c : w = 0
  · rw [if_pos c, am_ans_some, b_206_4, if_neg (fun z => z rfl), b_206_8]; exact h
  · rw [if_neg c, am_ans_some, b_206_51, if_neg (fun z => z rfl), b_206_55]; exact h
theorem m_smL {d nS n N : Nat} {tp : Nat → Nat} {M0 : am_M} {Q : Option Value → am_H → Prop} (hT : TT tp n N M0) : ∀ (m w j : Nat) (c : CS) (M : am_M) (z : Value), N < m + j → w = 0 ∨ w = 2 ∨ w = 3 → c.1 + (if w = 0 then 0 else 1) ≤ j → PM tp n N j c M0 M → (∀ e M', smL (kK tp n) (kV tp n) m w j c = .error e → FM tp n e M0 M' → Q (some (.int (-1))) (hp nS M')) → (∀ q M', smL (kK tp n) (kV tp n) m w j c = .ok q → PM tp n N q.1 q.2 M0 M' → Q (some (.int 0)) (hp nS M')) → am_Wp (d + 5) 207 10 [.ref 205, z] [] (hp nS M) (GW (d + 5) w Q) := by
  have hte := hT.e
  have hl := hT.e.l
  intro m
  induction m with
  | zero =>
    intro w j c M z hN hw hc h hE hO
    have := h.jn
    omega
  | succ m ih =>
    intro w j c M z hN hw hc h hE hO
    have hj := h.jn
    have hk38 := kK_38 tp n j
    have s42 : ∀ {Q : Option Value → am_H → Prop}, am_Wp (d + 4) 199 0 [.ref 205, .int 42] [] (hp nS M) Q = Q (some (.int (bI (decide (kK tp n j = 29))))) (hp nS M) := fun {Q} => m_is h 42 29 3 (by decide) (by decide) (by decide)
    have s47 : ∀ {Q : Option Value → am_H → Prop}, am_Wp (d + 4) 199 0 [.ref 205, .int 47] [] (hp nS M) Q = Q (some (.int (bI (decide (kK tp n j = 30))))) (hp nS M) := fun {Q} => m_is h 47 30 4 (by decide) (by decide) (by decide)
    rw [smL] at hE hO
    rw [b_207_10, s42, am_ans_some, b_207_16]
    by_cases c1 : kK tp n j = 29 ∨ kK tp n j = 30
    · rw [if_pos c1] at hE hO
      have hj1 : j + 1 ≤ N := TE_s hte hj (by omega)
      have go : am_Wp (d + 5) 207 28 [.ref 205, z] [] (hp nS M) (GW (d + 5) w Q) := by
        rw [b_207_28, s42, am_ans_some, b_207_34]
        refine m_nx (d := d + 1) hT h hj1 (fun M1 h1 => ?_)
        have hat := h1.a.k
        have k38 := kK_38 tp n (j + 1)
        have en := k_n hat k38
        rw [am_ans_none, b_207_39]
        have unit : ∀ (x1 : Int32) (op : Nat), pU (kK tp n) (kV tp n) (decide (kK tp n j = 30)) (j + 1) c = pU (kK tp n) (kV tp n) false (j + 1) c → ((x1 = 0 ∧ op = 5) ∨ (x1 = 1 ∧ op = 4)) → op = (if kK tp n j = 29 then 4 else 5) → am_Wp (d + 5) 207 74 [.ref 205, .int x1] [] (hp nS M1) (GW (d + 5) w Q) := by
          intro x1 op hpu hx hop
          rw [hpu] at hE hO
          rw [b_207_74]
          refine m_unit hT h1 (by omega) (fun e M' he hf => ?_) (fun q M' hq hp' => ?_)
          · rw [am_ans_some, b_207_78, if_neg (fun z => z rfl), b_207_82]
            exact GW_no (hE e M' (by rw [he]) hf)
          · obtain ⟨u1, u2, u3, _⟩ := pU_ok hte hj1 hq
            rw [hq] at hE hO
            have em : ∀ x : Int32, x = opM (Cd.op op) → am_Wp (d + 5) 207 94 [.ref 205, .int x1] [.int x, .ref 205] (hp nS M') (GW (d + 5) w Q) := by
              intro x hx
              rw [b_207_94]
              refine m_emit (y := Cd.op op) hp' (by omega) hx rfl (fun M2 h2 => ?_)
              rw [am_ans_none, b_207_98]
              rw [hop] at h2
              exact ih w q.1 _ M2 _ (by omega) hw (by rw [put_1]; omega) h2 hE hO
            rw [am_ans_some, b_207_78, if_pos m1n, b_207_84]
            rcases hx with ⟨rfl, rfl⟩ | ⟨rfl, rfl⟩
            · rw [if_pos rfl, b_207_93]; exact em 5 rfl
            · rw [if_neg bn1, b_207_89]; exact em 4 rfl
        by_cases c29 : kK tp n j = 29
        · rw [ifn_t c29, b_207_57, ifn_t c29, decide_eq_true c29]
          exact unit 1 4 (by rw [decide_eq_false (show ¬ kK tp n j = 30 by omega)]) (Or.inr ⟨rfl, rfl⟩) (by rw [if_pos c29])
        · have c30 : kK tp n j = 30 := by omega
          rw [decide_eq_true c30] at hE hO
          rw [ifn_f c29, b_207_43]
          by_cases c36 : kK tp n (j + 1) = 36
          · rw [if_pos (en.mpr c36), b_207_57, ifn_f c29, b_207_61, (hat.n c36).2]
            have v9 := kV_le c36
            by_cases cv : kV tp n (j + 1) = 0
            · have hpu : pU (kK tp n) (kV tp n) true (j + 1) c = .error (2, j + 1) := by unfold pU; rw [if_neg (fun z => z.1 c36), if_pos ⟨rfl, cv⟩]
              rw [if_neg (fun z => z (by rw [cv]; rfl)), b_207_68]
              refine m_err (x := 2) h1 (fun M' hf => ?_)
              rw [am_ans_some, b_207_73]
              exact GW_no (hE (2, j + 1) M' (by rw [hpu]) hf)
            · rw [if_pos (nI_ne0 (by omega) (by omega)), decide_eq_false c29]
              exact unit 0 5 (by rw [decide_eq_true c30]; exact pU_tf c36 cv) (Or.inl ⟨rfl, rfl⟩) (by rw [if_neg c29])
          · have hpu : pU (kK tp n) (kV tp n) true (j + 1) c = .error (1, j + 1) := by unfold pU; rw [if_pos ⟨c36, Or.inl rfl⟩]
            rw [if_neg (fun z => c36 (en.mp z)), b_207_51]
            refine m_err (x := 1) h1 (fun M' hf => ?_)
            rw [am_ans_some, b_207_56]
            exact GW_no (hE (1, j + 1) M' (by rw [hpu]) hf)
      by_cases c29 : kK tp n j = 29
      · rw [ifn_t c29]; exact go
      · rw [ifn_f c29, b_207_19, s47, am_ans_some, b_207_25, ifb_t (show kK tp n j = 30 by omega)]
        exact go
    · rw [if_neg c1] at hE hO
      rw [ifn_f (by omega), b_207_19, s47, am_ans_some, b_207_25, ifb_f (by omega), b_207_101]
      have flc := fl_1 w c
      have at10 : ∀ M1 z1, PM tp n N j (fl w c) M0 M1 → am_Wp (d + 5 + 1) 206 10 [.ref 205, z1] [] (hp nS M1) Q := by
        intro M1 z1 h1
        have s43 : ∀ {Q : Option Value → am_H → Prop}, am_Wp (d + 5) 199 0 [.ref 205, .int 43] [] (hp nS M1) Q = Q (some (.int (bI (decide (kK tp n j = 27))))) (hp nS M1) := fun {Q} => m_is h1 43 27 1 (by decide) (by decide) (by decide)
        have s45 : ∀ {Q : Option Value → am_H → Prop}, am_Wp (d + 5) 199 0 [.ref 205, .int 45] [] (hp nS M1) Q = Q (some (.int (bI (decide (kK tp n j = 28))))) (hp nS M1) := fun {Q} => m_is h1 45 28 2 (by decide) (by decide) (by decide)
        rw [b_206_10, s43, am_ans_some, b_206_16]
        by_cases c2 : kK tp n j = 27 ∨ kK tp n j = 28
        · rw [if_pos c2] at hE hO
          have hj1 : j + 1 ≤ N := TE_s hte hj (by omega)
          have hv : M1 205 19 = nI (sgB (kK tp n j - 26)) := (h1.a.k.s (by omega) (by omega)).2
          have tail : ∀ w', (w' = 2 ∨ w' = 3) → w' = (if kK tp n j = 27 then 2 else 3) → am_Wp (d + 5 + 1) 206 42 [.ref 205, z1] [.int (nI w')] (hp nS M1) Q := by
            intro w' hw' hww
            rw [b_206_42]
            refine m_nx (d := d + 2) hT h1 hj1 (fun M2 h2 => ?_)
            rw [am_ans_none, b_206_47, b_207_0]
            have gw : (fun v h1 => am_Wp (d + 5 + 1) 206 51 [.ref 205, .int (nI w')] (am_ans v []) h1 Q) = GW (d + 5) w' Q := funext fun v => funext fun h1 => (if_neg (show ¬ w' = 0 by omega)).symm
            rw [gw]
            refine m_unit hT h2 (by omega) (fun e M' he hf => ?_) (fun q M' hq hp' => ?_)
            · rw [am_ans_some, b_207_4, if_neg (fun z => z rfl), b_207_8]
              exact GW_no (hE e M' (by rw [he]) hf)
            · obtain ⟨u1, u2, u3, _⟩ := pU_ok hte hj1 hq
              rw [hq] at hE hO
              rw [← hww] at hE hO
              rw [am_ans_some, b_207_4, if_pos m1n]
              exact ih w' q.1 q.2 M' _ (by omega) (by omega) (by rw [if_neg (by omega)]; omega) hp' hE hO
          have go : am_Wp (d + 5 + 1) 206 28 [.ref 205, z1] [] (hp nS M1) Q := by
            rw [b_206_28, hv]
            by_cases c27 : kK tp n j = 27
            · rw [if_neg (fun z => z (by rw [c27]; rfl)), b_206_37]
              exact tail 2 (Or.inl rfl) (by rw [if_pos c27])
            · rw [if_pos (by rw [show kK tp n j = 28 by omega]; decide), b_206_41]
              exact tail 3 (Or.inr rfl) (by rw [if_neg c27])
          by_cases c27 : kK tp n j = 27
          · rw [ifn_t c27]; exact go
          · rw [ifn_f c27, b_206_19, s45, am_ans_some, b_206_25, ifb_t (show kK tp n j = 28 by omega)]
            exact go
        · rw [if_neg c2] at hO
          rw [ifn_f (by omega), b_206_19, s45, am_ans_some, b_206_25, ifb_f (by omega), b_206_66]
          exact hO (j, fl w c) M1 rfl h1
      unfold GW
      rcases hw with rfl | rfl | rfl
      · rw [if_pos rfl, am_ans_some, b_206_4, if_pos m1n]
        exact at10 M _ h
      · rw [if_neg (by omega), am_ans_some, b_206_51, if_pos m1n, b_206_57]
        refine m_emit (y := Cd.op 2) h (Nat.lt_of_lt_of_le (Nat.lt_of_succ_le (show c.1 + 1 ≤ j from hc)) (by omega)) rfl rfl (fun M1 h1 => ?_)
        rw [am_ans_none, b_206_63]
        exact at10 M1 _ h1
      · rw [if_neg (by omega), am_ans_some, b_206_51, if_pos m1n, b_206_57]
        refine m_emit (y := Cd.op 3) h (Nat.lt_of_lt_of_le (Nat.lt_of_succ_le (show c.1 + 1 ≤ j from hc)) (by omega)) rfl rfl (fun M1 h1 => ?_)
        rw [am_ans_none, b_206_63]
        exact at10 M1 _ h1
theorem m_sum {d nS n N j : Nat} {tp : Nat → Nat} {c : CS} {M0 : am_M} {M : am_M} {Q : Option Value → am_H → Prop} (hT : TT tp n N M0) (h : PM tp n N j c M0 M) (hc : c.1 ≤ j) (hE : ∀ e M', pSum (kK tp n) (kV tp n) j c = .error e → FM tp n e M0 M' → Q (some (.int (-1))) (hp nS M')) (hO : ∀ q M', pSum (kK tp n) (kV tp n) j c = .ok q → PM tp n N q.1 q.2 M0 M' → Q (some (.int 0)) (hp nS M')) : am_Wp (d + 6) 206 0 [.ref 205, .retAddr 0] [] (hp nS M) Q := by
  have hte := hT.e
  have hl := hT.e.l
  have hj := h.jn
  have gw : (fun v h1 => am_Wp (d + 5 + 1) 206 4 [.ref 205, .retAddr 0] (am_ans v []) h1 Q) = GW (d + 5) 0 Q := funext fun v => funext fun h1 => (if_pos rfl).symm
  rw [b_206_0, b_207_0, gw]
  unfold pSum at hE hO
  refine m_unit hT h hc (fun e M' he hf => ?_) (fun q M' hq hp' => ?_)
  · rw [am_ans_some, b_207_4, if_neg (fun z => z rfl), b_207_8]
    exact GW_no (hE e M' (by rw [he]) hf)
  · obtain ⟨u1, u2, u3, _⟩ := pU_ok hte hj hq
    rw [hq] at hE hO
    rw [am_ans_some, b_207_4, if_pos m1n]
    exact m_smL hT 400 0 q.1 q.2 M' _ (by omega) (Or.inl rfl) (by rw [if_pos rfl]; omega) hp' hE hO
theorem m_cpd {d nS n N j : Nat} {tp : Nat → Nat} {c : CS} {M0 : am_M} {M : am_M} {Q : Option Value → am_H → Prop} (hT : TT tp n N M0) (h : PM tp n N j c M0 M) (hc : c.1 ≤ j) (hE : ∀ e M', pCmp (kK tp n) (kV tp n) j c = .error e → FM tp n e M0 M' → Q (some (.int (-1))) (hp nS M')) (hO : ∀ q M', pCmp (kK tp n) (kV tp n) j c = .ok q → PM tp n N q.1 q.2 M0 M' → Q (some (.int 0)) (hp nS M')) : am_Wp (d + 7) 213 0 [.ref 205, .retAddr 0] [] (hp nS M) Q := by
  have hte := hT.e
  have hl := hT.e.l
  have hj := h.jn
  rw [b_213_0]
  unfold pCmp at hE hO
  refine m_sum hT h hc (fun e M' he hf => ?_) (fun q M' hq hp' => ?_)
  · rw [am_ans_some, b_213_4, if_neg (fun z => z rfl), b_213_8]
    exact hE e M' (by rw [he]) hf
  · obtain ⟨u1, u2, u3, _⟩ := pSum_ok hte hj hq
    have q38 := kK_38 tp n q.1
    rw [hq] at hE hO
    have hE : ∀ e M', (if kK tp n q.1 = 33 ∨ kK tp n q.1 = 34 ∨ kK tp n q.1 = 35 then (match pSum (kK tp n) (kV tp n) (q.1 + 1) q.2 with | .error e => .error e | .ok r => .ok (r.1, put r.2 (Cd.op (kK tp n q.1 - 27)))) else .error (1, q.1) : PR) = .error e → FM tp n e M0 M' → Q (some (.int (-1))) (hp nS M') := hE
    have hO : ∀ r M', (if kK tp n q.1 = 33 ∨ kK tp n q.1 = 34 ∨ kK tp n q.1 = 35 then (match pSum (kK tp n) (kV tp n) (q.1 + 1) q.2 with | .error e => .error e | .ok r => .ok (r.1, put r.2 (Cd.op (kK tp n q.1 - 27)))) else .error (1, q.1) : PR) = .ok r → PM tp n N r.1 r.2 M0 M' → Q (some (.int 0)) (hp nS M') := hO
    have s60 : ∀ {Q : Option Value → am_H → Prop}, am_Wp (d + 6) 199 0 [.ref 205, .int 60] [] (hp nS M') Q = Q (some (.int (bI (decide (kK tp n q.1 = 33))))) (hp nS M') := fun {Q} => m_is hp' 60 33 7 (by decide) (by decide) (by decide)
    have s61 : ∀ {Q : Option Value → am_H → Prop}, am_Wp (d + 6) 199 0 [.ref 205, .int 61] [] (hp nS M') Q = Q (some (.int (bI (decide (kK tp n q.1 = 34))))) (hp nS M') := fun {Q} => m_is hp' 61 34 8 (by decide) (by decide) (by decide)
    have s62 : ∀ {Q : Option Value → am_H → Prop}, am_Wp (d + 6) 199 0 [.ref 205, .int 62] [] (hp nS M') Q = Q (some (.int (bI (decide (kK tp n q.1 = 35))))) (hp nS M') := fun {Q} => m_is hp' 62 35 9 (by decide) (by decide) (by decide)
    rw [am_ans_some, b_213_4, if_pos m1n, b_213_10, s60, am_ans_some, b_213_16]
    by_cases c2 : kK tp n q.1 = 33 ∨ kK tp n q.1 = 34 ∨ kK tp n q.1 = 35
    · rw [if_pos c2] at hE hO
      have hj2 : q.1 + 1 ≤ N := TE_s hte u1 (by omega)
      have hv : M' 205 19 = nI (sgB (kK tp n q.1 - 26)) := (hp'.a.k.s (by omega) (by omega)).2
      have tail : ∀ o, o = kK tp n q.1 - 27 → am_Wp (d + 7) 213 73 [.ref 205, .retAddr 0] [.int (nI o)] (hp nS M') Q := by
        intro o ho
        rw [b_213_73]
        refine m_nx (d := d + 3) hT hp' hj2 (fun M1 h1 => ?_)
        rw [am_ans_none, b_213_78]
        refine m_sum hT h1 (by omega) (fun e M2 he hf => ?_) (fun r M2 hr h2 => ?_)
        · rw [am_ans_some, b_213_82, if_neg (fun z => z rfl), b_213_86]
          exact hE e M2 (by rw [he]) hf
        · obtain ⟨r1, r2, r3, _⟩ := pSum_ok hte hj2 hr
          rw [hr] at hE hO
          rw [am_ans_some, b_213_82, if_pos m1n, b_213_88]
          refine m_emit (y := Cd.op o) h2 (by omega) rfl rfl (fun M3 h3 => ?_)
          rw [am_ans_none, b_213_94]
          exact hO (r.1, put r.2 (Cd.op (kK tp n q.1 - 27))) M3 rfl (by rw [← ho]; exact h3)
      have go : am_Wp (d + 7) 213 43 [.ref 205, .retAddr 0] [] (hp nS M') Q := by
        rw [b_213_43, hv]
        rcases c2 with e | e | e
        · rw [if_neg (fun z => z (by rw [e]; rfl)), b_213_52]
          exact tail 6 (by omega)
        · rw [if_pos (by rw [e]; decide), b_213_57, hv, if_neg (fun z => z (by rw [e]; rfl)), b_213_66]
          exact tail 7 (by omega)
        · rw [if_pos (by rw [e]; decide), b_213_57, hv, if_pos (by rw [e]; decide), b_213_71]
          exact tail 8 (by omega)
      by_cases c33 : kK tp n q.1 = 33
      · rw [ifn_t c33]; exact go
      · rw [ifn_f c33, b_213_19, s61, am_ans_some, b_213_25]
        by_cases c34 : kK tp n q.1 = 34
        · rw [ifn_t c34]; exact go
        · rw [ifn_f c34, b_213_28, s62, am_ans_some, b_213_34, ifn_t (show kK tp n q.1 = 35 by omega)]
          exact go
    · rw [if_neg c2] at hE
      rw [ifn_f (by omega), b_213_19, s61, am_ans_some, b_213_25, ifn_f (by omega), b_213_28, s62, am_ans_some, b_213_34, ifn_f (by omega), b_213_37]
      refine m_err (x := 1) hp' (fun M2 hf => ?_)
      rw [am_ans_some, b_213_42]
      exact hE (1, q.1) M2 rfl hf
end
