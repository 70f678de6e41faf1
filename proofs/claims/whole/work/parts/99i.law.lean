section
/-! THE LINES OF THE LAW -/
def pLn (K V : Nat → Nat) (j : Nat) (c : CS) : Except (Nat × Nat) (Nat × (Nat × CS)) := match pSum K V j c with
  | .error e => .error e
  | .ok q => if K q.1 = 3 then (match pCh K (pSg K V 9 0) (q.1 + 1) q.2 with
      | .error e => .error e
      | .ok r => .ok (q.2.1, r)) else .ok (q.2.1, q)
def addL (l : Lw) (w h : Nat) (c : CS) : Lw := (l.n + 1, nu l.w l.n w, nu l.f l.n l.u, nu l.h l.n h, nu l.t l.n c.1, c.2, c.1)
def cOf (l : Lw) : CS := (l.u, l.cs)
def lwL (K V : Nat → Nat) : Nat → Nat → Lw → Except (Nat × Nat) Lw
  | 0, j, _ => .error (9, j)
  | m + 1, j, l => if K j = 37 then .ok l else if ¬ K j ≤ 2 then .error (1, j) else if l.n = 16 then .error (3, j) else (match pLn K V (j + 1) (cOf l) with
      | .error e => .error e
      | .ok r => if K r.2.1 = 26 then lwL K V m (r.2.1 + 1) (addL l (K j) r.1 r.2.2) else .error (1, r.2.1))
abbrev LN (N j : Nat) (c : CS) (r : Nat × (Nat × CS)) : Prop := (r.2.1 ≤ N) ∧ (j < r.2.1) ∧ (r.2.2.1 + j ≤ c.1 + r.2.1) ∧ (c.1 ≤ r.1) ∧ (r.1 ≤ r.2.2.1) ∧ (∀ i, i < c.1 → r.2.2.2 i = c.2 i) ∧ (∃ b, TyR r.2.2.2 (r.1 - c.1) c.1 [] [b]) ∧ (r.1 = r.2.2.1 ∨ ∃ b, TyR r.2.2.2 (r.2.2.1 - r.1) r.1 [] [b])
theorem LN.a {N j : Nat} {c : CS} {r : Nat × (Nat × CS)} (zz : LN N j c r) : r.2.1 ≤ N := zz.1
theorem LN.b {N j : Nat} {c : CS} {r : Nat × (Nat × CS)} (zz : LN N j c r) : j < r.2.1 := zz.2.1
theorem LN.n {N j : Nat} {c : CS} {r : Nat × (Nat × CS)} (zz : LN N j c r) : r.2.2.1 + j ≤ c.1 + r.2.1 := zz.2.2.1
theorem LN.h1 {N j : Nat} {c : CS} {r : Nat × (Nat × CS)} (zz : LN N j c r) : c.1 ≤ r.1 := zz.2.2.2.1
theorem LN.h2 {N j : Nat} {c : CS} {r : Nat × (Nat × CS)} (zz : LN N j c r) : r.1 ≤ r.2.2.1 := zz.2.2.2.2.1
theorem LN.e {N j : Nat} {c : CS} {r : Nat × (Nat × CS)} (zz : LN N j c r) : ∀ i, i < c.1 → r.2.2.2 i = c.2 i := zz.2.2.2.2.2.1
theorem LN.s {N j : Nat} {c : CS} {r : Nat × (Nat × CS)} (zz : LN N j c r) : ∃ b, TyR r.2.2.2 (r.1 - c.1) c.1 [] [b] := zz.2.2.2.2.2.2.1
theorem LN.w {N j : Nat} {c : CS} {r : Nat × (Nat × CS)} (zz : LN N j c r) : r.1 = r.2.2.1 ∨ ∃ b, TyR r.2.2.2 (r.2.2.1 - r.1) r.1 [] [b] := zz.2.2.2.2.2.2.2
theorem pLn_ok {K V : Nat → Nat} {N j : Nat} {c : CS} {r : Nat × (Nat × CS)} (hE : TE K V N) (hj : j ≤ N) (h : pLn K V j c = .ok r) : LN N j c r := by
  unfold pLn at h
  cases hu : pSum K V j c with
  | error e => rw [hu] at h; cases h
  | ok q =>
    rw [hu] at h
    obtain ⟨u1, u2, u3, u4⟩ := pSum_ok hE hj hu
    obtain ⟨b, _, hx⟩ := u4 [] (by decide)
    have hl := hx.l
    by_cases c3 : K q.1 = 3
    · have h : (match pCh K (pSg K V 9 0) (q.1 + 1) q.2 with | .error e => .error e | .ok r => .ok (q.2.1, r) : Except (Nat × Nat) (Nat × (Nat × CS))) = .ok r := by rw [← h]; exact (if_pos c3).symm
      cases hr : pCh K (pSg K V 9 0) (q.1 + 1) q.2 with
      | error e => rw [hr] at h; cases h
      | ok p =>
        rw [hr] at h
        cases h
        have hj1 := TE_s hE u1 (by omega)
        have co := pCh_ok (L := 10) hE (fun j c q hj h => pSg_ok hE 9 0 j c q (by omega) hj h) hj1 hr (by omega)
        have o1 := co.a
        have o2 := co.b
        have o3 := co.n
        have hc := co.t [] (by decide)
        have hcl := hc.l
        exact ⟨o1, by show j < p.1; omega, by show p.2.1 + j ≤ c.1 + p.1; omega, hl, hcl, fun i hi => (hc.e i (Nat.lt_of_lt_of_le hi hl)).trans (hx.e i hi), ⟨b, TyR_c _ _ _ (fun k h1 h2 => hc.e k (by omega)) hx.r⟩, Or.inr ⟨1, hc.r⟩⟩
    · have h : (Except.ok (q.2.1, q) : Except (Nat × Nat) (Nat × (Nat × CS))) = .ok r := by rw [← h]; exact (if_neg c3).symm
      cases h
      exact ⟨u1, u2, u3, hl, Nat.le_refl _, hx.e, ⟨b, hx.r⟩, Or.inl rfl⟩
theorem addL_ok {N j : Nat} {l : Lw} {w : Nat} {r : Nat × (Nat × CS)} (h : LwOk l) (hw : w ≤ 2) (h16 : l.n < 16) (hr : LN N j (cOf l) r) (hu : r.2.2.1 ≤ 400) : LwOk (addL l w r.1 r.2.2) := by
  have q1 : l.u ≤ r.1 := hr.h1
  have q2 := hr.h2
  have lt : ∀ k, k < l.n → l.t k ≤ l.u := h.tu
  have cs : ∀ i, i < l.u → r.2.2.2 i = l.cs i := hr.e
  have ne : ∀ {k}, k < l.n + 1 → ¬ k = l.n → k < l.n := fun h1 h2 => by omega
  refine ⟨h16, hu, fun k hk => ?_, fun k hk => ?_, fun k hk => ?_, fun k hk => ?_, fun k hk => ?_, fun k hk => ?_⟩
  · show nu l.w l.n w k ≤ 2
    by_cases e : k = l.n
    · rw [e, nu_same]; exact hw
    · rw [nu_ne _ _ e]; exact h.w3 k (ne hk e)
  · show nu l.f l.n l.u k ≤ nu l.h l.n r.1 k
    by_cases e : k = l.n
    · rw [e, nu_same, nu_same]; exact q1
    · rw [nu_ne _ _ e, nu_ne _ _ e]; exact h.fh k (ne hk e)
  · show nu l.h l.n r.1 k ≤ nu l.t l.n r.2.2.1 k
    by_cases e : k = l.n
    · rw [e, nu_same, nu_same]; exact q2
    · rw [nu_ne _ _ e, nu_ne _ _ e]; exact h.ht k (ne hk e)
  · show nu l.t l.n r.2.2.1 k ≤ r.2.2.1
    by_cases e : k = l.n
    · rw [e, nu_same]; exact Nat.le_refl _
    · rw [nu_ne _ _ e]; have := lt k (ne hk e); omega
  · show ∃ b, TyR r.2.2.2 (nu l.h l.n r.1 k - nu l.f l.n l.u k) (nu l.f l.n l.u k) [] [b]
    by_cases e : k = l.n
    · rw [e, nu_same, nu_same]; exact hr.s
    · have z1 := h.fh k (ne hk e)
      have z2 := h.ht k (ne hk e)
      have z3 := lt k (ne hk e)
      rw [nu_ne _ _ e, nu_ne _ _ e]
      obtain ⟨b, hb⟩ := h.e k (ne hk e)
      exact ⟨b, TyR_c _ _ _ (fun i h1 h2 => cs i (by omega)) hb⟩
  · show nu l.h l.n r.1 k = nu l.t l.n r.2.2.1 k ∨ ∃ b, TyR r.2.2.2 (nu l.t l.n r.2.2.1 k - nu l.h l.n r.1 k) (nu l.h l.n r.1 k) [] [b]
    by_cases e : k = l.n
    · rw [e, nu_same, nu_same]; exact hr.w
    · have z1 := h.fh k (ne hk e)
      have z2 := h.ht k (ne hk e)
      have z3 := lt k (ne hk e)
      rw [nu_ne _ _ e, nu_ne _ _ e]
      rcases h.c k (ne hk e) with q | ⟨b, hb⟩
      · exact Or.inl q
      · exact Or.inr ⟨b, TyR_c _ _ _ (fun i h1 h2 => cs i (by omega)) hb⟩
theorem lwL_ok {K V : Nat → Nat} {N : Nat} (hE : TE K V N) : ∀ (m j : Nat) (l l' : Lw), j ≤ N → l.u ≤ j → LwOk l → lwL K V m j l = .ok l' → LwOk l'
  | 0, _, _, _, _, _, _, h => by cases h
  | m + 1, j, l, l', hj, hu, hl, h => by
    rw [lwL] at h
    by_cases c1 : K j = 37
    · rw [if_pos c1] at h; cases h; exact hl
    rw [if_neg c1] at h
    by_cases c2 : ¬ K j ≤ 2
    · rw [if_pos c2] at h; cases h
    rw [if_neg c2] at h
    by_cases c3 : l.n = 16
    · rw [if_pos c3] at h; cases h
    rw [if_neg c3] at h
    have hj1 := TE_s hE hj c1
    cases hr : pLn K V (j + 1) (cOf l) with
    | error e => rw [hr] at h; cases h
    | ok r =>
      rw [hr] at h
      have ln := pLn_ok hE hj1 hr
      have a1 := ln.a
      have a2 : r.2.2.1 + (j + 1) ≤ l.u + r.2.1 := ln.n
      have h16 := hl.n16
      have hN := hE.l
      by_cases c4 : K r.2.1 = 26
      · have h : lwL K V m (r.2.1 + 1) (addL l (K j) r.1 r.2.2) = .ok l' := by rw [← h]; exact (if_pos c4).symm
        exact lwL_ok hE m _ _ l' (TE_s hE a1 (by omega)) (by show r.2.2.1 ≤ r.2.1 + 1; omega) (addL_ok hl (by omega) (by omega) ln (by omega)) h
      · have h : (Except.error (1, r.2.1) : Except (Nat × Nat) Lw) = .ok l' := by rw [← h]; exact (if_neg c4).symm
        cases h
/-! the program -/
abbrev LC (tp : Nat → Nat) (n N j : Nat) (l : Lw) (M0 M : am_M) : Prop := (M 187 10 = nI j) ∧ (j ≤ N) ∧ (CLw 188 M l) ∧ (∀ a k, ¬ ((188 ≤ a ∧ a ≤ 197) ∨ (a = 187 ∧ (k = 1 ∨ k = 2 ∨ k = 10))) → M a k = M0 a k)
theorem LC.i {tp : Nat → Nat} {n N j : Nat} {l : Lw} {M0 M : am_M} (zz : LC tp n N j l M0 M) : M 187 10 = nI j := zz.1
theorem LC.jn {tp : Nat → Nat} {n N j : Nat} {l : Lw} {M0 M : am_M} (zz : LC tp n N j l M0 M) : j ≤ N := zz.2.1
theorem LC.l {tp : Nat → Nat} {n N j : Nat} {l : Lw} {M0 M : am_M} (zz : LC tp n N j l M0 M) : CLw 188 M l := zz.2.2.1
theorem LC.f {tp : Nat → Nat} {n N j : Nat} {l : Lw} {M0 M : am_M} (zz : LC tp n N j l M0 M) : ∀ a k, ¬ ((188 ≤ a ∧ a ≤ 197) ∨ (a = 187 ∧ (k = 1 ∨ k = 2 ∨ k = 10))) → M a k = M0 a k := zz.2.2.2
theorem FC_c {tp : Nat → Nat} {n : Nat} {e : Nat × Nat} {M0 M1 M : am_M} (h : FC tp n e M1 M) (f : ∀ a k, ¬ ((188 ≤ a ∧ a ≤ 197) ∨ (a = 187 ∧ (k = 1 ∨ k = 2 ∨ k = 10))) → M1 a k = M0 a k) : FC tp n e M0 M := ⟨h.k, h.p, fun a k hk => (h.f a k hk).trans (f a k hk)⟩
theorem x_line {nS n N j e : Nat} {tp : Nat → Nat} {l : Lw} {M0 : am_M} {M : am_M} {Q : Option Value → am_H → Prop} (hT : TK tp n N M0) (h : LC tp n N j l M0 M) (he : 22 ≤ e) (hk : kK tp n j ≤ 2) (h16 : l.n < 16) (hu : l.u ≤ j) (hE : ∀ e M', pLn (kK tp n) (kV tp n) (j + 1) (cOf l) = .error e → FC tp n e M0 M' → Q (some (.int 0)) (hp nS M')) (hO : ∀ r M', pLn (kK tp n) (kV tp n) (j + 1) (cOf l) = .ok r → PC tp n N r.2.1 r.2.2 M' M' → CLw 188 M' (addL l (kK tp n j) r.1 r.2.2) → (∀ a k, ¬ ((188 ≤ a ∧ a ≤ 197) ∨ (a = 187 ∧ (k = 1 ∨ k = 2 ∨ k = 10))) → M' a k = M0 a k) → (∀ k, k = 1 ∨ k = 2 → M' 187 k = M 187 k) → Q (some (.int 1)) (hp nS M')) : am_Wp e 54 0 [.ref 187] [] (hp nS M) Q := by
  obtain ⟨e1, rfl⟩ : ∃ e1, e = e1 + 22 := ⟨e - 22, by omega⟩
  have hte := TE_of hT
  have hj := h.jn
  have hlN := hT.l
  have hj1 : j + 1 ≤ N := TE_s hte hj (by omega)
  have hT0 := TK_f hT h.f
  have p0 : PC tp n N j (cOf l) M M := ⟨h.i, hj, h.l.u, h.l.cs, fun _ _ _ => rfl⟩
  have v0 : M 188 0 = nI l.n := h.l.n
  have v1 : M 188 1 = nI l.u := h.l.u
  rw [b_54_0, x_kd hT0 p0, am_ans_some, b_54_8]
  have w0 : am_up M 189 l.n (nI (kK tp n j)) 188 0 = nI l.n := by rw [up_ne _ _ _ (by decide)]; exact v0
  have w1 : am_up M 189 l.n (nI (kK tp n j)) 188 1 = nI l.u := by rw [up_ne _ _ _ (by decide)]; exact v1
  rw [c_27 (fun _ => by rw [v0]; exact in_n h16 (by omega)) (fun _ => by rw [v0, cl_n (by omega), w0]; exact in_n h16 (by omega)), v0, if_neg (by rw [li, le_n (by omega) (by omega)]; omega), cl_n (by omega), w0, cl_n (by omega), w1, am_ans_none]
  have g1 : ∀ a k, ¬ (a = 189 ∨ a = 190) → am_up (am_up M 189 l.n (nI (kK tp n j))) 190 l.n (nI l.u) a k = M a k := fun a k hk => by rw [up_pt _ _ (by omega), up_pt _ _ (by omega)]
  have r189 : ∀ k, k < l.n + 1 → am_up (am_up M 189 l.n (nI (kK tp n j))) 190 l.n (nI l.u) 189 k = nI (nu l.w l.n (kK tp n j) k) := fun k hk => by
    rw [up_ne _ _ _ (by decide), up_same, upd_at]
    by_cases e : k = l.n
    · rw [if_pos e, e, nu_same]
    · rw [if_neg e, nu_ne _ _ e]; exact h.l.w k (by omega)
  have r190 : ∀ k, k < l.n + 1 → am_up (am_up M 189 l.n (nI (kK tp n j))) 190 l.n (nI l.u) 190 k = nI (nu l.f l.n l.u k) := fun k hk => by
    rw [up_same, upd_at]
    by_cases e : k = l.n
    · rw [if_pos e, e, nu_same]
    · rw [if_neg e, nu_ne _ _ e, up_ne _ _ _ (by decide)]; exact h.l.f k (by omega)
  generalize am_up (am_up M 189 l.n (nI (kK tp n j))) 190 l.n (nI l.u) = M1 at *
  have p1 : PC tp n N j (cOf l) M1 M1 := ⟨by rw [g1 _ _ (by omega)]; exact h.i, hj, by rw [g1 _ _ (by omega)]; exact v1, fun i hi => by rw [g1 _ _ (by omega)]; exact h.l.cs i hi, fun _ _ _ => rfl⟩
  have f1 : ∀ a k, ¬ ((188 ≤ a ∧ a ≤ 197) ∨ (a = 187 ∧ (k = 1 ∨ k = 2 ∨ k = 10))) → M1 a k = M0 a k := fun a k hk => by rw [g1 _ _ (by omega)]; exact h.f a k hk
  have hT1 := TK_f hT f1
  rw [b_54_11]
  have hc0 : (cOf l).1 ≤ j := hu
  unfold pLn at hE hO
  refine x_sum (d := e1 + 19) hT1 (PC_at p1 hj1) (by omega) (fun e M' he hf => ?_) (fun q M2 hq p2 => ?_)
  · rw [am_ans_some, b_54_25, if_neg (fun z => z rfl), b_54_28]
    exact hE e M' (by rw [he]) (FC_c hf f1)
  obtain ⟨u1, u2, u3, _⟩ := pSum_ok hte hj1 hq
  rw [hq] at hE hO
  have hE : ∀ e M', (if kK tp n q.1 = 3 then (match pCh (kK tp n) (pSg (kK tp n) (kV tp n) 9 0) (q.1 + 1) q.2 with | .error e => .error e | .ok r => .ok (q.2.1, r)) else .ok (q.2.1, q) : Except (Nat × Nat) (Nat × (Nat × CS))) = .error e → FC tp n e M0 M' → Q (some (.int 0)) (hp nS M') := hE
  have hO : ∀ r M', (if kK tp n q.1 = 3 then (match pCh (kK tp n) (pSg (kK tp n) (kV tp n) 9 0) (q.1 + 1) q.2 with | .error e => .error e | .ok r => .ok (q.2.1, r)) else .ok (q.2.1, q) : Except (Nat × Nat) (Nat × (Nat × CS))) = .ok r → PC tp n N r.2.1 r.2.2 M' M' → CLw 188 M' (addL l (kK tp n j) r.1 r.2.2) → (∀ a k, ¬ ((188 ≤ a ∧ a ≤ 197) ∨ (a = 187 ∧ (k = 1 ∨ k = 2 ∨ k = 10))) → M' a k = M0 a k) → (∀ k, k = 1 ∨ k = 2 → M' 187 k = M 187 k) → Q (some (.int 1)) (hp nS M') := hO
  have x0 : M2 188 0 = nI l.n := by rw [p2.f _ _ (by omega), g1 _ _ (by omega)]; exact v0
  rw [am_ans_some, b_54_25, if_pos bn1, b_54_30, c_29 (fun _ => by rw [x0]; exact in_n h16 (by omega)), x0, if_neg (by rw [li, le_n (by omega) (by omega)]; omega), cl_n (by omega), p2.u, am_ans_none]
  have g2 : ∀ a k, ¬ (a = 191 ∨ a = 193 ∨ (a = 188 ∧ k = 1) ∨ (a = 187 ∧ k = 10)) → am_up M2 191 l.n (nI q.2.1) a k = M1 a k := fun a k hk => by rw [up_pt _ _ (by omega)]; exact p2.f a k (by omega)
  have r191 : ∀ k, k < l.n + 1 → am_up M2 191 l.n (nI q.2.1) 191 k = nI (nu l.h l.n q.2.1 k) := fun k hk => by
    rw [up_same, upd_at]
    by_cases e : k = l.n
    · rw [if_pos e, e, nu_same]
    · rw [if_neg e, nu_ne _ _ e, p2.f _ _ (by omega), g1 _ _ (by omega)]; exact h.l.h k (by omega)
  have p3 : PC tp n N q.1 q.2 (am_up M2 191 l.n (nI q.2.1)) (am_up M2 191 l.n (nI q.2.1)) := ⟨by rw [up_pt _ _ (by omega)]; exact p2.i, p2.jn, by rw [up_pt _ _ (by omega)]; exact p2.u, fun i hi => by rw [up_pt _ _ (by omega)]; exact p2.cd i hi, fun _ _ _ => rfl⟩
  generalize am_up M2 191 l.n (nI q.2.1) = M3 at *
  have f3 : ∀ a k, ¬ ((188 ≤ a ∧ a ≤ 197) ∨ (a = 187 ∧ (k = 1 ∨ k = 2 ∨ k = 10))) → M3 a k = M0 a k := fun a k hk => by rw [g2 _ _ (by omega)]; exact f1 a k hk
  have hT3 := TK_f hT f3
  -- the line is closed
  have close : ∀ (r : Nat × CS) (M4 : am_M), PC tp n N r.1 r.2 M3 M4 → (if kK tp n q.1 = 3 then (match pCh (kK tp n) (pSg (kK tp n) (kV tp n) 9 0) (q.1 + 1) q.2 with | .error e => .error e | .ok r => .ok (q.2.1, r)) else .ok (q.2.1, q) : Except (Nat × Nat) (Nat × (Nat × CS))) = .ok (q.2.1, r) → am_Wp (e1 + 22) 54 65 [.ref 187] [] (hp nS M4) Q := by
    intro r M4 p4 hr
    have y0 : M4 188 0 = nI l.n := by rw [p4.f _ _ (by omega), g2 _ _ (by omega), g1 _ _ (by omega)]; exact v0
    have y1 : am_up M4 192 l.n (nI r.2.1) 188 0 = nI l.n := by rw [up_ne _ _ _ (by decide)]; exact y0
    rw [b_54_65, c_30 (fun _ => by rw [y0]; exact in_n h16 (by omega)), y0, if_neg (by rw [li, le_n (by omega) (by omega)]; omega), cl_n (by omega), p4.u, y1, nI_1, am_ans_none, b_54_72]
    refine hO (q.2.1, r) _ hr ⟨by rw [up_pt _ _ (by omega), up_pt _ _ (by omega)]; exact p4.i, p4.jn, by rw [up_pt _ _ (by omega), up_pt _ _ (by omega)]; exact p4.u, fun i hi => by rw [up_pt _ _ (by omega), up_pt _ _ (by omega)]; exact p4.cd i hi, fun _ _ _ => rfl⟩ ⟨by rw [up_same, upd_same]; rfl, by rw [up_pt _ _ (by omega), up_pt _ _ (by omega)]; exact p4.u, fun k hk => ?_, fun k hk => ?_, fun k hk => ?_, fun k hk => ?_, fun k hk => ?_⟩ (fun a k hk => by rw [up_pt _ _ (by omega), up_pt _ _ (by omega), p4.f _ _ (by omega)]; exact f3 a k hk) (fun k hk => by rw [up_pt _ _ (by omega), up_pt _ _ (by omega), p4.f _ _ (by omega), g2 _ _ (by omega), g1 _ _ (by omega)])
    · rw [up_pt _ _ (by omega), up_pt _ _ (by omega), p4.f _ _ (by omega), g2 _ _ (by omega)]; exact r189 k hk
    · rw [up_pt _ _ (by omega), up_pt _ _ (by omega), p4.f _ _ (by omega), g2 _ _ (by omega)]; exact r190 k hk
    · rw [up_pt _ _ (by omega), up_pt _ _ (by omega), p4.f _ _ (by omega)]; exact r191 k hk
    · have hk : k < l.n + 1 := hk
      show am_up (am_up M4 192 l.n (nI r.2.1)) 188 0 (nI (l.n + 1)) 192 k = nI (nu l.t l.n r.2.1 k)
      rw [up_ne _ _ _ (by decide), up_same, upd_at]
      by_cases e : k = l.n
      · rw [if_pos e, e, nu_same]
      · rw [if_neg e, nu_ne _ _ e, p4.f _ _ (by omega), g2 _ _ (by omega), g1 _ _ (by omega)]; exact h.l.t k (by omega)
    · rw [up_pt _ _ (by omega), up_pt _ _ (by omega)]; exact p4.cd k hk
  rw [b_54_37, x_kd hT3 p3, am_ans_some, b_54_41]
  have q38 := kK_38 tp n q.1
  by_cases c3 : kK tp n q.1 = 3
  · have hj2 : q.1 + 1 ≤ N := TE_s hte u1 (by omega)
    rw [if_neg (fun z => z (by rw [c3]; rfl)), b_54_45]
    have hsg := x_sg (nS := nS) hT3 9 0 (e1 + 20) (by omega) (by omega) (by omega)
    refine x_ch (e := e1 + 19) hT3 hsg (fun j c q hj h => pSg_ok hte 9 0 j c q (by omega) hj h) (q.1 + 1) q.2 _ _ (by omega) (PC_at p3 hj2) (fun e M' he hf => ?_) (fun r M' hr p4 => ?_)
    · rw [am_ans_some, b_54_60, if_neg (fun z => z rfl), b_54_63]
      exact hE e M' (by rw [if_pos c3, he]) (FC_c hf f3)
    · rw [am_ans_some, b_54_60, if_pos bn1]
      exact close r M' p4 (by rw [if_pos c3, hr])
  · rw [if_pos (show ¬ nI (kK tp n q.1) = 3 by rw [li, eq_n (by omega) (by omega)]; exact c3)]
    exact close q M3 p3 (by rw [if_neg c3])
theorem x_law {nS n N e : Nat} {tp : Nat → Nat} {M0 : am_M} {Q : Option Value → am_H → Prop} (hT : TK tp n N M0) (he : 23 ≤ e) : ∀ (m j : Nat) (l : Lw) (M : am_M) (z : Value), l.n + m = 17 → LwOk l → l.u ≤ j → LC tp n N j l M0 M → (∀ e M', lwL (kK tp n) (kV tp n) m j l = .error e → FC tp n e M0 M' → Q (some (.int 0)) (hp nS M')) → (∀ l' j' M', lwL (kK tp n) (kV tp n) m j l = .ok l' → LC tp n N j' l' M0 M' → (∀ k, k = 1 ∨ k = 2 → M' 187 k = M0 187 k) → Q (some (.int 1)) (hp nS M')) → (∀ k, k = 1 ∨ k = 2 → M 187 k = M0 187 k) → am_Wp e 42 52 [.ref 187, .int 0, .ref 18, .int (nI l.n), z] [] (hp nS M) Q := by
  have hte := TE_of hT
  have hlN := hT.l
  intro m
  induction m with
  | zero =>
    intro j l M z hm hl
    have := hl.n16
    omega
  | succ m ih =>
    intro j l M z hm hl hu h hE hO h12
    obtain ⟨e1, rfl⟩ : ∃ e1, e = e1 + 1 + 1 := ⟨e - 2, by omega⟩
    have h16 := hl.n16
    have hj := h.jn
    have hk38 := kK_38 tp n j
    have hT0 := TK_f hT h.f
    have p0 : PC tp n N j (cOf l) M M := ⟨h.i, hj, h.l.u, h.l.cs, fun _ _ _ => rfl⟩
    have cur : (if M 187 9 ≤ M 187 10 then (37 : Int32) else M 199 (M 187 10).toNatClampNeg) = nI (kK tp n j) := by
      rw [hT0.t, h.i, if_neg (by rw [le_n (by omega) (by omega)]; omega), cl_n (by omega), hT0.k j hj]
    rw [lwL] at hE hO
    rw [b_42_52, if_neg (by rw [li, lt_n (by omega) (by omega)]; omega), b_42_58, x_kd hT0 p0, am_ans_some, b_42_62]
    by_cases c37 : kK tp n j = 37
    · rw [if_pos c37] at hO
      rw [if_pos (by rw [c37]; rfl), b_42_159]
      exact hO l j M rfl h h12
    rw [if_neg c37] at hE hO
    rw [if_neg (by rw [li, eq_n (by omega) (by omega)]; exact c37), b_42_67, c_52 (fun _ => by rw [h.i]; exact in_n (by omega) (by omega)), cur, am_ans_some, b_42_72]
    by_cases c2 : kK tp n j ≤ 2
    · rw [if_neg (fun z => z c2)] at hE hO
      have cb : ((¬ (0 : Int32) = 0) ∧ (((¬ (0 : Int32) = 3) ∧ (¬ (¬ nI (kK tp n j) = 16))) ∨ (¬ (¬ (0 : Int32) = 3) ∧ (¬ (¬ nI (kK tp n j) = 24))))) ∨ (¬ (¬ (0 : Int32) = 0) ∧ ((nI (kK tp n j) = 0) ∨ ((nI (kK tp n j) = 1) ∨ (¬ (¬ nI (kK tp n j) = 2))))) := by
        refine Or.inr ⟨fun z => z rfl, ?_⟩
        have : kK tp n j = 0 ∨ kK tp n j = 1 ∨ kK tp n j = 2 := by omega
        rcases this with q | q | q
        · exact Or.inl (by rw [q]; rfl)
        · exact Or.inr (Or.inl (by rw [q]; rfl))
        · exact Or.inr (Or.inr (fun z => z (by rw [q]; rfl)))
      rw [ite1_t cb, b_42_81]
      by_cases c16 : l.n = 16
      · rw [if_pos c16] at hE
        rw [if_neg (fun z => z (by rw [c16]; rfl)), b_42_87]
        refine x_flt (x := 3) hT0 p0 (fun M' hf => ?_)
        rw [am_ans_some, b_42_92 rok0]
        exact hE (3, j) M' rfl (FC_c hf h.f)
      · rw [if_neg c16] at hE hO
        have hj1 : j + 1 ≤ N := TE_s hte hj c37
        rw [if_pos (show ¬ nI l.n = 16 by rw [li, eq_n (by omega) (by omega)]; exact c16), b_42_93, if_neg (fun z => z rfl), b_42_97]
        refine x_line hT h (by omega) c2 (by omega) hu (fun e M' he hf => ?_) (fun r M' hr p1 hl1 f1 f12 => ?_)
        · rw [am_ans_some, b_42_101, b_42_135, if_pos rfl, b_42_151]
          exact hE e M' (by rw [he]) hf
        · have ln := pLn_ok hte hj1 hr
          have a1 := ln.a
          have a2 : r.2.2.1 + (j + 1) ≤ l.u + r.2.1 := ln.n
          have a3 := ln.b
          rw [hr] at hE hO
          have hE : ∀ e M', (if kK tp n r.2.1 = 26 then lwL (kK tp n) (kV tp n) m (r.2.1 + 1) (addL l (kK tp n j) r.1 r.2.2) else .error (1, r.2.1) : Except (Nat × Nat) Lw) = .error e → FC tp n e M0 M' → Q (some (.int 0)) (hp nS M') := hE
          have hO : ∀ l' j' M', (if kK tp n r.2.1 = 26 then lwL (kK tp n) (kV tp n) m (r.2.1 + 1) (addL l (kK tp n j) r.1 r.2.2) else .error (1, r.2.1) : Except (Nat × Nat) Lw) = .ok l' → LC tp n N j' l' M0 M' → (∀ k, k = 1 ∨ k = 2 → M' 187 k = M0 187 k) → Q (some (.int 1)) (hp nS M') := hO
          rw [am_ans_some, b_42_101, b_42_135, if_neg bn1, b_42_142]
          refine x_takes (k := 26) (TK_f hT f1) p1 (by omega) (fun hne M2 hf => ?_) (fun heq M2 p2 => ?_)
          · rw [am_ans_some, b_42_148, if_neg (fun z => z rfl), b_42_151]
            exact hE (1, r.2.1) M2 (by rw [if_neg hne]) (FC_c hf f1)
          · rw [if_pos heq] at hE hO
            rw [am_ans_some, b_42_148, if_pos bn1, b_42_153, nI_1]
            have hl2 : CLw 188 M2 (addL l (kK tp n j) r.1 r.2.2) := ⟨by rw [p2.f _ _ (by omega)]; exact hl1.n, p2.u, fun k hk => by rw [p2.f _ _ (by omega)]; exact hl1.w k hk, fun k hk => by rw [p2.f _ _ (by omega)]; exact hl1.f k hk, fun k hk => by rw [p2.f _ _ (by omega)]; exact hl1.h k hk, fun k hk => by rw [p2.f _ _ (by omega)]; exact hl1.t k hk, p2.cd⟩
            refine ih (r.2.1 + 1) (addL l (kK tp n j) r.1 r.2.2) M2 _ (by show l.n + 1 + m = 17; omega) (addL_ok hl c2 (by omega) ln (by omega)) (by show r.2.2.1 ≤ r.2.1 + 1; omega) ⟨p2.i, p2.jn, hl2, fun a k hk => by rw [p2.f _ _ (by omega)]; exact f1 a k hk⟩ hE hO (fun k hk => by rw [p2.f _ _ (by omega), f12 k hk]; exact h12 k hk)
    · rw [if_pos c2] at hE
      rw [ite1_f ?_, b_42_75]
      · refine x_flt (x := 1) hT0 p0 (fun M' hf => ?_)
        rw [am_ans_some, b_42_80 rok0]
        exact hE (1, j) M' rfl (FC_c hf h.f)
      · rintro (z | z)
        · exact z.1 rfl
        · rcases z.2 with q | q | q
          · rw [li, eq_n (by omega) (by omega)] at q; omega
          · rw [li, eq_n (by omega) (by omega)] at q; omega
          · exact q (by rw [li, eq_n (by omega) (by omega)]; omega)
end
