section
theorem chL_ok {K V : Nat → Nat} {N L : Nat} {S : Nat → CS → PR} (hE : TE K V N) (hS : ∀ j c q, j ≤ N → S j c = .ok q → CO N j c L q) : ∀ (m : Nat) (w : Bool) (j : Nat) (c : CS) (q : Nat × CS), j ≤ N → chL K S m w j c = .ok q → q.1 ≤ N ∧ j ≤ q.1 ∧ q.2.1 + j ≤ c.1 + (if w = true then 1 else 0) + q.1 ∧ ∀ t : List Nat, t.length + 2 ≤ L → EXT c q.2 (if w = true then 1 :: 1 :: t else 1 :: t) (1 :: t)
  | 0, _, _, _, _, _, h => by cases h
  | m + 1, w, j, c, q, hj, h => by
    rw [chL] at h
    have jn : ∀ (k : Nat) (c : CS) (s : List Nat), k = 10 ∨ k = 11 → EXT c (put c (Cd.op k)) (1 :: 1 :: s) (1 :: s) := fun k c s hk => EXT_p (Or.inr (Or.inr (Or.inr ⟨k, 1, 1, s, rfl, rfl, Or.inr (Or.inr (Or.inr ⟨hk, rfl, rfl, rfl⟩))⟩)))
    by_cases c5 : K j = 5
    · rw [if_pos c5] at h
      cases hu : S (j + 1) c with
      | error e => rw [hu] at h; cases h
      | ok u =>
        rw [hu] at h
        have hj1 := TE_s hE hj (by omega)
        have co := hS _ _ _ hj1 hu
        have o1 := co.a
        have o2 := co.b
        have o3 := co.n
        obtain ⟨r1, r2, r3, r4⟩ := chL_ok hE hS m w u.1 _ q o1 h
        rw [put_1] at r3
        refine ⟨r1, by omega, by omega, fun t ht => ?_⟩
        have := r4 t ht
        cases w with
        | true =>
          rw [if_pos rfl] at this ⊢
          exact EXT_t (EXT_t (co.t (1 :: 1 :: t) (by simp only [List.length_cons]; omega)) (jn 10 u.2 (1 :: t) (Or.inl rfl))) this
        | false =>
          rw [if_neg (by decide)] at this ⊢
          exact EXT_t (EXT_t (co.t (1 :: t) (by simp only [List.length_cons]; omega)) (jn 10 u.2 t (Or.inl rfl))) this
    · rw [if_neg c5] at h
      have fo : ∀ t : List Nat, EXT c (if w = true then put c (Cd.op 11) else c) (if w = true then 1 :: 1 :: t else 1 :: t) (1 :: t) := by
        intro t
        cases w with
        | true => rw [if_pos rfl, if_pos rfl]; exact jn 11 c t (Or.inr rfl)
        | false => rw [if_neg (by decide), if_neg (by decide)]; exact EXT_0 c _
      have f1 : (if w = true then put c (Cd.op 11) else c).1 = c.1 + (if w = true then 1 else 0) := by
        cases w with
        | true => rw [if_pos rfl, if_pos rfl]; rfl
        | false => rw [if_neg (by decide), if_neg (by decide)]; rfl
      by_cases c4 : K j = 4
      · rw [if_pos c4] at h
        cases hu : S (j + 1) (if w = true then put c (Cd.op 11) else c) with
        | error e => rw [hu] at h; cases h
        | ok u =>
          rw [hu] at h
          have hj1 := TE_s hE hj (by omega)
          have co := hS _ _ _ hj1 hu
          have o1 := co.a
          have o2 := co.b
          have o3 := co.n
          rw [f1] at o3
          obtain ⟨r1, r2, r3, r4⟩ := chL_ok hE hS m true u.1 _ q o1 h
          rw [if_pos rfl] at r3
          refine ⟨r1, by omega, by omega, fun t ht => ?_⟩
          have := r4 t ht
          rw [if_pos rfl] at this
          exact EXT_t (EXT_t (fo t) (co.t (1 :: t) (by simp only [List.length_cons]; omega))) this
      · rw [if_neg c4] at h
        cases h
        exact ⟨hj, Nat.le_refl _, by show (if w = true then put c (Cd.op 11) else c).1 + j ≤ _; rw [f1]; exact Nat.le_refl _, fun t _ => fo t⟩
theorem pCh_ok {K V : Nat → Nat} {N L : Nat} {S : Nat → CS → PR} (hE : TE K V N) (hS : ∀ j c q, j ≤ N → S j c = .ok q → CO N j c L q) {j : Nat} {c : CS} {q : Nat × CS} (hj : j ≤ N) (h : pCh K S j c = .ok q) (hL : 2 ≤ L) : CO N j c (L - 2) q := by
  unfold pCh at h
  cases hu : S j c with
  | error e => rw [hu] at h; cases h
  | ok u =>
    rw [hu] at h
    have co := hS _ _ _ hj hu
    have o1 := co.a
    have o2 := co.b
    have o3 := co.n
    obtain ⟨r1, r2, r3, r4⟩ := chL_ok hE hS 400 false u.1 _ q o1 h
    rw [if_neg (by decide)] at r3
    refine ⟨r1, by omega, by omega, fun t ht => ?_⟩
    have := r4 t (by omega)
    rw [if_neg (by decide)] at this
    exact EXT_t (co.t t (by omega)) this
theorem pSg_ok {K V : Nat → Nat} {N : Nat} (hE : TE K V N) : ∀ (f o j : Nat) (c : CS) (q : Nat × CS), f ≤ 9 → j ≤ N → pSg K V f o j c = .ok q → CO N j c (28 - 2 * f) q
  | 0, _, _, _, _, _, _, h => by cases h
  | f + 1, o, j, c, q, hf, hj, h => by
    rw [pSg] at h
    by_cases c1 : K j = 6 ∨ K j = 31
    · rw [if_pos c1] at h
      by_cases c8 : 8 ≤ o
      · rw [if_pos c8] at h; cases h
      rw [if_neg c8] at h
      have hj1 := TE_s hE hj (by omega)
      by_cases c31 : K j = 31
      · rw [if_pos c31] at h
        cases hu : pCh K (pSg K V f (o + 1)) (j + 1) c with
        | error e => rw [hu] at h; cases h
        | ok u =>
          rw [hu] at h
          have co := pCh_ok (L := 28 - 2 * f) hE (fun j c q hj h => pSg_ok hE f (o + 1) j c q (by omega) hj h) hj1 hu (by omega)
          have o1 := co.a
          have o2 := co.b
          have o3 := co.n
          by_cases c32 : K u.1 = 32
          · have h : (Except.ok (u.1 + 1, u.2) : PR) = .ok q := by rw [← h]; exact (if_pos c32).symm
            cases h
            exact ⟨TE_s hE o1 (by omega), by show j < u.1 + 1; omega, by show u.2.1 + j ≤ c.1 + (u.1 + 1); omega, fun t ht => co.t t (by omega)⟩
          · have h : (Except.error (1, u.1) : PR) = .ok q := by rw [← h]; exact (if_neg c32).symm
            cases h
      · rw [if_neg c31] at h
        cases hu : pSg K V f (o + 1) (j + 1) c with
        | error e => rw [hu] at h; cases h
        | ok u =>
          rw [hu] at h
          cases h
          have co := pSg_ok hE f (o + 1) (j + 1) c u (by omega) hj1 hu
          have o1 := co.a
          have o2 := co.b
          have o3 := co.n
          refine ⟨o1, by show j < u.1; omega, by show (put u.2 _).1 + j ≤ c.1 + u.1; rw [put_1]; omega, fun t ht => EXT_t (co.t t (by omega)) (EXT_p (Or.inr (Or.inr (Or.inl ⟨rfl, t, rfl, rfl⟩))))⟩
    · rw [if_neg c1] at h
      have co := pCmp_ok hE hj h
      exact ⟨co.a, co.b, co.n, fun t ht => co.t t (by omega)⟩
/-! THE PROGRAM READS IT -/
abbrev PC (tp : Nat → Nat) (n N j : Nat) (c : CS) (M0 M : am_M) : Prop := (M 187 10 = nI j) ∧ (j ≤ N) ∧ (M 188 1 = nI c.1) ∧ (∀ i, i < c.1 → M 193 i = enc (c.2 i)) ∧ (∀ a k, ¬ (a = 193 ∨ (a = 188 ∧ k = 1) ∨ (a = 187 ∧ k = 10)) → M a k = M0 a k)
theorem PC.i {tp : Nat → Nat} {n N j : Nat} {c : CS} {M0 M : am_M} (zz : PC tp n N j c M0 M) : M 187 10 = nI j := zz.1
theorem PC.jn {tp : Nat → Nat} {n N j : Nat} {c : CS} {M0 M : am_M} (zz : PC tp n N j c M0 M) : j ≤ N := zz.2.1
theorem PC.u {tp : Nat → Nat} {n N j : Nat} {c : CS} {M0 M : am_M} (zz : PC tp n N j c M0 M) : M 188 1 = nI c.1 := zz.2.2.1
theorem PC.cd {tp : Nat → Nat} {n N j : Nat} {c : CS} {M0 M : am_M} (zz : PC tp n N j c M0 M) : ∀ i, i < c.1 → M 193 i = enc (c.2 i) := zz.2.2.2.1
theorem PC.f {tp : Nat → Nat} {n N j : Nat} {c : CS} {M0 M : am_M} (zz : PC tp n N j c M0 M) : ∀ a k, ¬ (a = 193 ∨ (a = 188 ∧ k = 1) ∨ (a = 187 ∧ k = 10)) → M a k = M0 a k := zz.2.2.2.2
/-- a fault: which, at which token -/
abbrev FC (tp : Nat → Nat) (n : Nat) (e : Nat × Nat) (M0 M : am_M) : Prop := (M 187 1 = nI e.1) ∧ (M 187 2 = nI (ps tp n e.2)) ∧ (∀ a k, ¬ ((188 ≤ a ∧ a ≤ 197) ∨ (a = 187 ∧ (k = 1 ∨ k = 2 ∨ k = 10))) → M a k = M0 a k)
theorem FC.k {tp : Nat → Nat} {n : Nat} {e : Nat × Nat} {M0 M : am_M} (zz : FC tp n e M0 M) : M 187 1 = nI e.1 := zz.1
theorem FC.p {tp : Nat → Nat} {n : Nat} {e : Nat × Nat} {M0 M : am_M} (zz : FC tp n e M0 M) : M 187 2 = nI (ps tp n e.2) := zz.2.1
theorem FC.f {tp : Nat → Nat} {n : Nat} {e : Nat × Nat} {M0 M : am_M} (zz : FC tp n e M0 M) : ∀ a k, ¬ ((188 ≤ a ∧ a ≤ 197) ∨ (a = 187 ∧ (k = 1 ∨ k = 2 ∨ k = 10))) → M a k = M0 a k := zz.2.2
theorem TK_f {tp : Nat → Nat} {n N : Nat} {M0 M : am_M} (h : TK tp n N M0) (f : ∀ a k, ¬ ((188 ≤ a ∧ a ≤ 197) ∨ (a = 187 ∧ (k = 1 ∨ k = 2 ∨ k = 10))) → M a k = M0 a k) : TK tp n N M := ⟨by rw [f _ _ (by omega)]; exact h.t, fun j hj => by rw [f _ _ (by omega)]; exact h.k j hj, fun j hj hk => by rw [f _ _ (by omega)]; exact h.v j hj hk, fun j hj => by rw [f _ _ (by omega)]; exact h.p j hj, h.e, h.b, h.l⟩
theorem TE_of {tp : Nat → Nat} {n N : Nat} {M : am_M} (h : TK tp n N M) : TE (kK tp n) (kV tp n) N := ⟨kK_37.mpr h.e, fun j hj z => by have := kK_37.mp z; have := h.b j hj; omega, fun j hj => kV_le hj, kK_38 tp n, h.l⟩
theorem PC_f {tp : Nat → Nat} {n N j : Nat} {c : CS} {M0 M : am_M} (h : PC tp n N j c M0 M) : ∀ a k, ¬ ((188 ≤ a ∧ a ≤ 197) ∨ (a = 187 ∧ (k = 1 ∨ k = 2 ∨ k = 10))) → M a k = M0 a k := fun a k hk => h.f a k (by omega)
theorem PC_k {tp : Nat → Nat} {n N j : Nat} {c : CS} {M0 M : am_M} (hT : TK tp n N M0) (h : PC tp n N j c M0 M) : TK tp n N M := TK_f hT (PC_f h)
theorem PC_at {tp : Nat → Nat} {n N j : Nat} {c : CS} {M0 M : am_M} (h : PC tp n N j c M0 M) (hj : j + 1 ≤ N) : PC tp n N (j + 1) c M0 (am_up M 187 10 (M 187 10 + 1)) := ⟨by rw [up_same, upd_same, h.i, nI_1], hj, by rw [up_pt _ _ (by omega)]; exact h.u, fun i hi => by rw [up_pt _ _ (by omega)]; exact h.cd i hi, fun a k hk => by rw [up_pt _ _ (by omega)]; exact h.f a k hk⟩
theorem x_kd {d nS n N j : Nat} {tp : Nat → Nat} {c : CS} {M0 : am_M} {M : am_M} {Q : Option Value → am_H → Prop} (hT : TK tp n N M0) (h : PC tp n N j c M0 M) : am_Wp d 51 0 [.ref 187] [] (hp nS M) Q = Q (some (.int (nI (kK tp n j)))) (hp nS M) := by
  have hk := PC_k hT h
  have hl := hT.l
  have hj := h.jn
  rw [c_51 (fun _ => by rw [h.i]; exact in_n (by omega) (by omega)), hk.t, h.i, if_neg (by rw [le_n (by omega) (by omega)]; omega), cl_n (by omega), hk.k j hj]
theorem x_flt {d nS n N j x : Nat} {tp : Nat → Nat} {c : CS} {M0 : am_M} {M : am_M} {Q : Option Value → am_H → Prop} (hT : TK tp n N M0) (h : PC tp n N j c M0 M) (hQ : ∀ M', FC tp n (x, j) M0 M' → Q (some (.int 0)) (hp nS M')) : am_Wp d 53 0 [.ref 187, .int (nI x)] [] (hp nS M) Q := by
  have hk := PC_k hT h
  have hl := hT.l
  have hj := h.jn
  have u9 : am_up M 187 1 (nI x) 187 9 = nI (N + 1) := by rw [up_pt _ _ (by omega)]; exact hk.t
  have u10 : am_up M 187 1 (nI x) 187 10 = nI j := by rw [up_pt _ _ (by omega)]; exact h.i
  have u1 : am_up M 187 1 (nI x) 201 j = nI (ps tp n j) := by rw [up_ne _ _ _ (by decide)]; exact hk.p j hj
  rw [c_53 (fun _ => by rw [u10]; exact in_n (by omega) (by omega)), u9, u10, if_neg (by rw [le_n (by omega) (by omega)]; omega), cl_n (by omega), u1]
  exact hQ _ ⟨by rw [up_pt _ _ (by omega), up_same, upd_same], by rw [up_same, upd_same], fun a k hk => by rw [up_pt _ _ (by omega), up_pt _ _ (by omega)]; exact PC_f h a k hk⟩
theorem x_adds {d nS n N j : Nat} {tp : Nat → Nat} {c : CS} {M0 : am_M} {y : Cd} {x : Int32} {M : am_M} {Q : Option Value → am_H → Prop} (h : PC tp n N j c M0 M) (hc : c.1 < 400) (hx : x = enc y) (hQ : ∀ M', PC tp n N j (put c y) M0 M' → Q none (hp nS M')) : am_Wp d 28 0 [.ref 188, .int x] [] (hp nS M) Q := by
  subst hx
  have u1 : am_up M 193 c.1 (enc y) 188 1 = nI c.1 := by rw [up_ne _ _ _ (by decide)]; exact h.u
  rw [c_28 (fun _ => by rw [h.u]; exact in_n (by omega) (by omega)), h.u, if_neg (by rw [li, le_n (by omega) (by omega)]; omega), cl_n (by omega), u1, nI_1]
  refine hQ _ ⟨by rw [up_pt _ _ (by omega), up_pt _ _ (by omega)]; exact h.i, h.jn, by rw [up_same, upd_same]; rfl, fun i hi => ?_, fun a k hk => by rw [up_pt _ _ (by omega), up_pt _ _ (by omega)]; exact h.f a k hk⟩
  have hi : i < c.1 + 1 := hi
  rw [up_ne _ _ _ (by decide), up_same, upd_at]
  show (if i = c.1 then enc y else M 193 i) = enc (if i = c.1 then y else c.2 i)
  by_cases e : i = c.1
  · rw [if_pos e, if_pos e]
  · rw [if_neg e, if_neg e]; exact h.cd i (by omega)
theorem x_unit {d nS n N j : Nat} {tp : Nat → Nat} {c : CS} {M0 : am_M} {pt : Bool} {M : am_M} {Q : Option Value → am_H → Prop} (hT : TK tp n N M0) (h : PC tp n N j c M0 M) (hc : c.1 ≤ j) (hE : ∀ e M', pU (kK tp n) (kV tp n) pt j c = .error e → FC tp n e M0 M' → Q (some (.int 0)) (hp nS M')) (hO : ∀ q M', pU (kK tp n) (kV tp n) pt j c = .ok q → PC tp n N q.1 q.2 M0 M' → Q (some (.int 1)) (hp nS M')) : am_Wp (d + 1) 56 0 [.ref 187, .int (bI pt), .retAddr 0, .retAddr 0] [] (hp nS M) Q := by
  have hte := TE_of hT
  have hl := hT.l
  have hj := h.jn
  have hk38 := kK_38 tp n j
  have hk := PC_k hT h
  have bt0 : (bI pt = 0) = (pt = false) := by cases pt <;> decide
  rw [b_56_0, x_kd hT h, am_ans_some, b_56_4]
  unfold pU at hE hO
  generalize hK : kK tp n j = k at *
  have err : (¬ k = 36 ∧ (pt = true ∨ k < 7 ∨ 15 < k)) → ∀ x3, am_Wp (d + 1) 56 37 [.ref 187, .int (bI pt), .int (nI k), .int x3] [] (hp nS M) Q := by
    intro c1 x3
    rw [b_56_37]
    refine x_flt (x := 1) hT h (fun M' hf => ?_)
    rw [am_ans_some, b_56_42 rok0]
    exact hE (1, j) M' (by rw [if_pos c1]) hf
  have good : ¬ (¬ k = 36 ∧ (pt = true ∨ k < 7 ∨ 15 < k)) → ∀ x3, (x3 = if k = 36 then (1 : Int32) else 0) → am_Wp (d + 1) 56 43 [.ref 187, .int (bI pt), .int (nI k), .int x3] [] (hp nS M) Q := by
    intro c1 x3 hx3
    have hj1 : j + 1 ≤ N := TE_s hte hj (by rw [hK]; omega)
    have at65 : ¬ (pt = true ∧ kV tp n j = 0) → am_Wp (d + 1) 56 65 [.ref 187, .int (bI pt), .int (nI k), .int x3] [] (hp nS M) Q := by
      intro c2
      have done : ∀ y x, x = enc y → (y = if k = 36 then Cd.num (kV tp n j) else Cd.ask (k - 7)) → am_Wp (d + 1) 56 88 [.ref 187, .int (bI pt), .int (nI k), .int x3] [.int x, .ref 188] (hp nS M) Q := by
        intro y x hx hy
        rw [b_56_88]
        refine x_adds h (by omega) hx (fun M' h' => ?_)
        rw [am_ans_none, b_56_91]
        exact hO (j + 1, put c y) _ (by rw [if_neg c1, if_neg c2, hy]) (PC_at h' hj1)
      rw [b_56_65]
      by_cases c36 : k = 36
      · rw [if_pos c36] at hx3
        rw [if_neg (by rw [hx3]; decide), b_56_73 (by rw [h.i]; exact in_n (by omega) (by omega)), h.i, cl_n (by omega), hk.v j hj (by rw [hK]; exact c36)]
        exact done (Cd.num (kV tp n j)) _ rfl (by rw [if_pos c36])
      · rw [if_neg c36] at hx3
        rw [if_pos hx3, b_56_85]
        refine done (Cd.ask (k - 7)) _ ?_ (by rw [if_neg c36])
        rw [enc_a, show 7 + (k - 7) = k by omega]
    rw [b_56_43]
    cases pt with
    | false => rw [if_pos (show bI false = 0 from rfl)]; exact at65 (fun z => by cases z.1)
    | true =>
      have c36 : k = 36 := Classical.byContradiction (fun z => c1 ⟨z, Or.inl rfl⟩)
      have hv9 := kV_le (hK.trans c36)
      rw [if_neg (show ¬ bI true = 0 by decide), b_56_47 (by rw [h.i]; exact in_n (by omega) (by omega)), h.i, cl_n (by omega), hk.v j hj (by rw [hK]; exact c36)]
      by_cases cv : kV tp n j = 0
      · rw [if_neg (fun z => z (by rw [cv]; rfl)), b_56_59]
        refine x_flt (x := 2) hT h (fun M' hf => ?_)
        rw [am_ans_some, b_56_64 rok0]
        exact hE (2, j) M' (by rw [if_neg c1, if_pos ⟨rfl, cv⟩]) hf
      · rw [if_pos (nI_ne0 (by omega) (by omega))]
        exact at65 (fun z => cv z.2)
  by_cases c36 : k = 36
  · rw [if_neg (fun z => z (by rw [c36]; rfl)), b_56_11, b_56_16, if_pos bn1]
    exact good (fun z => z.1 c36) 1 (by rw [if_pos c36])
  · rw [if_pos (show ¬ nI k = 36 by rw [li, eq_n (by omega) (by omega)]; exact c36), b_56_15, b_56_16, if_neg (fun z => z rfl), b_56_21]
    cases pt with
    | true => rw [if_pos (show ¬ bI true = 0 by decide)]; exact err ⟨c36, Or.inl rfl⟩ 0
    | false =>
      rw [if_neg (fun z => z rfl), b_56_25]
      by_cases c7 : k < 7
      · rw [if_pos (by rw [li, lt_n (by omega) (by omega)]; exact c7)]; exact err ⟨c36, Or.inr (Or.inl c7)⟩ 0
      · rw [if_neg (by rw [li, lt_n (by omega) (by omega)]; exact c7), b_56_31]
        by_cases c15 : 15 < k
        · rw [if_neg (by rw [li, le_n (by omega) (by omega)]; omega)]; exact err ⟨c36, Or.inr (Or.inr c15)⟩ 0
        · rw [if_pos (by rw [li, le_n (by omega) (by omega)]; omega)]
          exact good (fun z => z.2.elim (fun q => by cases q) (fun q => by omega)) 0 (by rw [if_neg c36])
/-- what waits, as the program has it -/
def wtV (w : Nat) : Nat := if w = 0 then 38 else kdO w
theorem x_smL {d nS n N : Nat} {tp : Nat → Nat} {M0 : am_M} {Q : Option Value → am_H → Prop} (hT : TK tp n N M0) : ∀ (m i w j : Nat) (c : CS) (M : am_M) (z3 z4 : Value), i + m = 400 → N < m + j → w = 0 ∨ w = 2 ∨ w = 3 → c.1 + (if w = 0 then 0 else 1) ≤ j → PC tp n N j c M0 M → (∀ e M', smL (kK tp n) (kV tp n) m w j c = .error e → FC tp n e M0 M' → Q (some (.int 0)) (hp nS M')) → (∀ q M', smL (kK tp n) (kV tp n) m w j c = .ok q → PC tp n N q.1 q.2 M0 M' → Q (some (.int 1)) (hp nS M')) → am_Wp (d + 2) 55 15 [.ref 187, .int (nI (wtV w)), .int (nI i), z3, z4] [] (hp nS M) Q := by
  have hte := TE_of hT
  have hl := hT.l
  intro m
  induction m with
  | zero =>
    intro i w j c M z3 z4 hi hN hw hc h hE hO
    have := h.jn
    omega
  | succ m ih =>
    intro i w j c M z3 z4 hi hN hw hc h hE hO
    have hj := h.jn
    have hk38 := kK_38 tp n j
    rw [b_55_15, if_neg (by rw [li, le_n (by omega) (by omega)]; omega), b_55_22, x_kd hT h, am_ans_some, b_55_26]
    rw [smL] at hE hO
    generalize hK : kK tp n j = k at *
    by_cases c1 : k = 29 ∨ k = 30
    · rw [if_pos c1] at hE hO
      have hj1 : j + 1 ≤ N := TE_s hte hj (by rw [hK]; omega)
      have go : am_Wp (d + 2) 55 39 [.ref 187, .int (nI (wtV w)), .int (nI i), .int (nI k), z4] [] (hp nS M) Q := by
        have h1 := PC_at h hj1
        have tail : am_Wp (d + 2) 55 111 [.ref 187, .int (nI (wtV w)), .int (nI i), .int (nI k), .int 1] [.int (bI (decide (k = 30))), .ref 187] (hp nS (am_up M 187 10 (M 187 10 + 1))) Q := by
          rw [b_55_111]
          refine x_unit hT h1 (by omega) (fun e M' he hf => ?_) (fun q M' hq hp' => ?_)
          · rw [am_ans_some, b_55_114, if_neg (fun z => z rfl), b_55_117]
            exact hE e M' (by rw [he]) hf
          · obtain ⟨u1, u2, u3, _⟩ := pU_ok hte hj1 hq
            rw [hq] at hE hO
            rw [am_ans_some, b_55_114, if_pos bn1, b_55_119, if_neg bn1, b_55_124]
            have hx : nI k ^^^ (-1) = enc (Cd.op (if k = 29 then 4 else 5)) := by
              rw [enc_o]
              by_cases c29 : k = 29
              · rw [if_pos c29, c29]; rfl
              · rw [if_neg c29, show k = 30 by omega]; rfl
            refine x_adds hp' (by omega) hx (fun M2 h2 => ?_)
            rw [am_ans_none, b_55_134, b_55_139, nI_1]
            exact ih (i + 1) w q.1 _ M2 _ _ (by omega) (by omega) hw (by rw [put_1]; omega) h2 hE hO
        rw [b_55_39, b_55_44, if_pos bn1, b_55_70, if_pos bn1, b_55_89]
        by_cases c30 : k = 30
        · rw [if_neg (fun z => z (by rw [c30]; rfl)), b_55_106]
          rw [decide_eq_true c30] at tail
          exact tail
        · rw [if_pos (show ¬ nI k = 30 by rw [li, eq_n (by omega) (by omega)]; exact c30), b_55_110]
          rw [decide_eq_false c30] at tail
          exact tail
      by_cases c29 : k = 29
      · rw [if_pos (by rw [c29]; rfl)]; exact go
      · rw [if_neg (by rw [li, eq_n (by omega) (by omega)]; exact c29), b_55_33, if_neg (fun z => z (by rw [show k = 30 by omega]; rfl))]
        exact go
    · rw [if_neg c1] at hE hO
      have at70 : ∀ M1, PC tp n N j (fl w c) M0 M1 → am_Wp (d + 2) 55 70 [.ref 187, .int 38, .int (nI i), .int (nI k), .int 0] [] (hp nS M1) Q := by
        intro M1 h1
        have flc := fl_1 w c
        rw [b_55_70, if_neg (fun z => z rfl), b_55_75]
        by_cases c2 : k = 27 ∨ k = 28
        · rw [if_pos c2] at hE hO
          have hj1 : j + 1 ≤ N := TE_s hte hj (by rw [hK]; omega)
          have go : am_Wp (d + 2) 55 89 [.ref 187, .int 38, .int (nI i), .int (nI k), .int 0] [] (hp nS M1) Q := by
            rw [b_55_89, if_pos (show ¬ nI k = 30 by rw [li, eq_n (by omega) (by omega)]; omega), b_55_110, b_55_111]
            refine x_unit (pt := false) hT (PC_at h1 hj1) (by omega) (fun e M' he hf => ?_) (fun q M' hq hp' => ?_)
            · rw [am_ans_some, b_55_114, if_neg (fun z => z rfl), b_55_117]
              exact hE e M' (by rw [he]) hf
            · obtain ⟨u1, u2, u3, _⟩ := pU_ok hte hj1 hq
              rw [hq] at hE hO
              rw [am_ans_some, b_55_114, if_pos bn1, b_55_119, if_pos rfl, b_55_137, b_55_139, nI_1]
              have hw2 : nI k = nI (wtV (if k = 27 then 2 else 3)) := by
                by_cases c27 : k = 27
                · rw [if_pos c27, c27]; rfl
                · rw [if_neg c27, show k = 28 by omega]; rfl
              have hw3 : (if k = 27 then 2 else 3) = 2 ∨ (if k = 27 then 2 else 3) = 3 := by
                by_cases c27 : k = 27
                · rw [if_pos c27]; omega
                · rw [if_neg c27]; omega
              have := ih (i + 1) (if k = 27 then 2 else 3) q.1 q.2 M' (.int (nI k)) (.int 0) (by omega) (by omega) (by omega) (by rw [if_neg (by omega)]; omega) hp' hE hO
              rw [← hw2] at this
              exact this
          by_cases c27 : k = 27
          · rw [if_pos (by rw [c27]; rfl)]; exact go
          · rw [if_neg (by rw [li, eq_n (by omega) (by omega)]; exact c27), b_55_81, if_pos (by rw [show k = 28 by omega]; rfl)]
            exact go
        · rw [if_neg c2] at hO
          rw [if_neg (by rw [li, eq_n (by omega) (by omega)]; omega), b_55_81, if_neg (by rw [li, eq_n (by omega) (by omega)]; omega), b_55_87]
          exact hO (j, fl w c) M1 rfl h1
      rw [if_neg (by rw [li, eq_n (by omega) (by omega)]; omega), b_55_33, if_pos (show ¬ nI k = 30 by rw [li, eq_n (by omega) (by omega)]; omega), b_55_43, b_55_44, if_neg (fun z => z rfl), b_55_51]
      rcases hw with rfl | rfl | rfl
      · rw [if_pos (show nI (wtV 0) = 38 from rfl)]
        exact at70 M h
      · rw [if_neg (show ¬ nI (wtV 2) = 38 by decide), b_55_57]
        refine x_adds (y := Cd.op 2) h (Nat.lt_of_lt_of_le (Nat.lt_of_succ_le (show c.1 + 1 ≤ j from hc)) (by omega)) rfl (fun M1 h1 => ?_)
        rw [am_ans_none, b_55_67]
        exact at70 M1 h1
      · rw [if_neg (show ¬ nI (wtV 3) = 38 by decide), b_55_57]
        refine x_adds (y := Cd.op 3) h (Nat.lt_of_lt_of_le (Nat.lt_of_succ_le (show c.1 + 1 ≤ j from hc)) (by omega)) rfl (fun M1 h1 => ?_)
        rw [am_ans_none, b_55_67]
        exact at70 M1 h1
theorem x_sum {d nS n N j : Nat} {tp : Nat → Nat} {c : CS} {M0 : am_M} {M : am_M} {Q : Option Value → am_H → Prop} (hT : TK tp n N M0) (h : PC tp n N j c M0 M) (hc : c.1 ≤ j) (hE : ∀ e M', pSum (kK tp n) (kV tp n) j c = .error e → FC tp n e M0 M' → Q (some (.int 0)) (hp nS M')) (hO : ∀ q M', pSum (kK tp n) (kV tp n) j c = .ok q → PC tp n N q.1 q.2 M0 M' → Q (some (.int 1)) (hp nS M')) : am_Wp (d + 2) 55 0 [.ref 187, .retAddr 0, .retAddr 0, .retAddr 0, .retAddr 0] [] (hp nS M) Q := by
  have hte := TE_of hT
  have hl := hT.l
  have hj := h.jn
  rw [b_55_0]
  unfold pSum at hE hO
  refine x_unit (pt := false) hT h hc (fun e M' he hf => ?_) (fun q M' hq hp' => ?_)
  · rw [am_ans_some, b_55_8, if_neg (fun z => z rfl), b_55_11]
    exact hE e M' (by rw [he]) hf
  · obtain ⟨u1, u2, u3, _⟩ := pU_ok hte hj hq
    rw [hq] at hE hO
    rw [am_ans_some, b_55_8, if_pos bn1, b_55_13]
    exact x_smL hT 400 0 0 q.1 q.2 M' _ _ (by omega) (by omega) (Or.inl rfl) (by rw [if_pos rfl]; omega) hp' hE hO
end
