section
/-! WHAT A TEXT SAYS -/
abbrev CS := Nat × (Nat → Cd)
def put (c : CS) (x : Cd) : CS := (c.1 + 1, fun i => if i = c.1 then x else c.2 i)
abbrev PR := Except (Nat × Nat) (Nat × CS)
def fl (w : Nat) (c : CS) : CS := if w = 0 then c else put c (Cd.op w)
def pU (K V : Nat → Nat) (pt : Bool) (j : Nat) (c : CS) : PR := if ¬ K j = 36 ∧ (pt = true ∨ K j < 7 ∨ 15 < K j) then .error (1, j) else if pt = true ∧ V j = 0 then .error (2, j) else .ok (j + 1, put c (if K j = 36 then Cd.num (V j) else Cd.ask (K j - 7)))
def smL (K V : Nat → Nat) : Nat → Nat → Nat → CS → PR
  | 0, _, j, _ => .error (9, j)
  | m + 1, w, j, c => if K j = 29 ∨ K j = 30 then (match pU K V (decide (K j = 30)) (j + 1) c with
      | .error e => .error e
      | .ok q => smL K V m w q.1 (put q.2 (Cd.op (if K j = 29 then 4 else 5))))
    else if K j = 27 ∨ K j = 28 then (match pU K V false (j + 1) (fl w c) with
      | .error e => .error e
      | .ok q => smL K V m (if K j = 27 then 2 else 3) q.1 q.2)
    else .ok (j, fl w c)
def pSum (K V : Nat → Nat) (j : Nat) (c : CS) : PR := match pU K V false j c with
  | .error e => .error e
  | .ok q => smL K V 400 0 q.1 q.2
def pCmp (K V : Nat → Nat) (j : Nat) (c : CS) : PR := match pSum K V j c with
  | .error e => .error e
  | .ok q => if K q.1 = 33 ∨ K q.1 = 34 ∨ K q.1 = 35 then (match pSum K V (q.1 + 1) q.2 with
      | .error e => .error e
      | .ok r => .ok (r.1, put r.2 (Cd.op (K q.1 - 27)))) else .error (1, q.1)
def chL (K : Nat → Nat) (S : Nat → CS → PR) : Nat → Bool → Nat → CS → PR
  | 0, _, j, _ => .error (9, j)
  | m + 1, w, j, c => if K j = 5 then (match S (j + 1) c with
      | .error e => .error e
      | .ok q => chL K S m w q.1 (put q.2 (Cd.op 10)))
    else if K j = 4 then (match S (j + 1) (if w = true then put c (Cd.op 11) else c) with
      | .error e => .error e
      | .ok q => chL K S m true q.1 q.2)
    else .ok (j, if w = true then put c (Cd.op 11) else c)
def pCh (K : Nat → Nat) (S : Nat → CS → PR) (j : Nat) (c : CS) : PR := match S j c with
  | .error e => .error e
  | .ok q => chL K S 400 false q.1 q.2
def pSg (K V : Nat → Nat) : Nat → Nat → Nat → CS → PR
  | 0, _, j, _ => .error (9, j)
  | f + 1, o, j, c => if K j = 6 ∨ K j = 31 then (if 8 ≤ o then .error (3, j) else if K j = 31 then (match pCh K (pSg K V f (o + 1)) (j + 1) c with
        | .error e => .error e
        | .ok q => if K q.1 = 32 then .ok (q.1 + 1, q.2) else .error (1, q.1))
      else (match pSg K V f (o + 1) (j + 1) c with
        | .error e => .error e
        | .ok q => .ok (q.1, put q.2 (Cd.op 9))))
    else pCmp K V j c
/-! how it goes on -/
theorem TyR_app {cs : Nat → Cd} {m' : Nat} {t1 t2 : List Nat} : ∀ (m i : Nat) (t : List Nat), TyR cs m i t t1 → TyR cs m' (i + m) t1 t2 → TyR cs (m + m') i t t2
  | 0, i, t, h1, h2 => by
    have h1 : t = t1 := h1
    rw [Nat.zero_add, h1]; exact h2
  | m + 1, i, t, ⟨u, hu, h1⟩, h2 => by
    rw [show m + 1 + m' = (m + m') + 1 by omega]
    exact ⟨u, hu, TyR_app m (i + 1) u h1 (by rw [show i + 1 + m = i + (m + 1) by omega]; exact h2)⟩
theorem TyR_c {cs cs' : Nat → Cd} {t' : List Nat} : ∀ (m i : Nat) (t : List Nat), (∀ k, i ≤ k → k < i + m → cs' k = cs k) → TyR cs m i t t' → TyR cs' m i t t'
  | 0, _, _, _, h => h
  | m + 1, i, t, e, ⟨u, hu, h⟩ => ⟨u, by rw [e i (by omega) (by omega)]; exact hu, TyR_c m (i + 1) u (fun k h1 h2 => e k (by omega) (by omega)) h⟩
abbrev EXT (c q : CS) (t t' : List Nat) : Prop := (c.1 ≤ q.1) ∧ (∀ i, i < c.1 → q.2 i = c.2 i) ∧ (TyR q.2 (q.1 - c.1) c.1 t t')
theorem EXT.l {c q : CS} {t t' : List Nat} (zz : EXT c q t t') : c.1 ≤ q.1 := zz.1
theorem EXT.e {c q : CS} {t t' : List Nat} (zz : EXT c q t t') : ∀ i, i < c.1 → q.2 i = c.2 i := zz.2.1
theorem EXT.r {c q : CS} {t t' : List Nat} (zz : EXT c q t t') : TyR q.2 (q.1 - c.1) c.1 t t' := zz.2.2
theorem EXT_0 (c : CS) (t : List Nat) : EXT c c t t := ⟨Nat.le_refl _, fun _ _ => rfl, by rw [Nat.sub_self]; rfl⟩
theorem EXT_t {a b c : CS} {t t1 t2 : List Nat} (h1 : EXT a b t t1) (h2 : EXT b c t1 t2) : EXT a c t t2 := by
  have l1 := h1.l
  have l2 := h2.l
  refine ⟨by omega, fun i hi => (h2.e i (by omega)).trans (h1.e i hi), ?_⟩
  rw [show c.1 - a.1 = (b.1 - a.1) + (c.1 - b.1) by omega]
  refine TyR_app _ _ _ (TyR_c _ _ _ (fun k q1 q2 => h2.e k (by omega)) h1.r) ?_
  rw [show a.1 + (b.1 - a.1) = b.1 by omega]
  exact h2.r
theorem EXT_p {c : CS} {x : Cd} {t t1 : List Nat} (h : Ty x t t1) : EXT c (put c x) t t1 := by
  refine ⟨Nat.le_succ _, fun i hi => if_neg (by omega), ?_⟩
  show TyR (put c x).2 (c.1 + 1 - c.1) c.1 t t1
  rw [show c.1 + 1 - c.1 = 0 + 1 by omega]
  refine ⟨t1, ?_, rfl⟩
  show Ty (if c.1 = c.1 then x else c.2 c.1) t t1
  rw [if_pos rfl]; exact h
abbrev GN (j : Nat) (c : CS) (q : Nat × CS) : Prop := (j ≤ q.1) ∧ (q.2.1 + j ≤ c.1 + q.1)
theorem GN.j {j : Nat} {c : CS} {q : Nat × CS} (zz : GN j c q) : j ≤ q.1 := zz.1
theorem GN.n {j : Nat} {c : CS} {q : Nat × CS} (zz : GN j c q) : q.2.1 + j ≤ c.1 + q.1 := zz.2
theorem GN_t {j : Nat} {c : CS} {q r : Nat × CS} (h1 : GN j c q) (h2 : GN q.1 q.2 r) : GN j c r := by
  have a1 := h1.j
  have a2 := h1.n
  have a3 := h2.j
  have a4 := h2.n
  exact ⟨by omega, by omega⟩
/-- tokens of a tape: the last is its end -/
abbrev TE (K V : Nat → Nat) (N : Nat) : Prop := (K N = 37) ∧ (∀ j, j < N → K j ≠ 37) ∧ (∀ j, K j = 36 → V j ≤ 9999) ∧ (∀ j, K j ≤ 38) ∧ (N ≤ 400)
theorem TE.e {K V : Nat → Nat} {N : Nat} (zz : TE K V N) : K N = 37 := zz.1
theorem TE.b {K V : Nat → Nat} {N : Nat} (zz : TE K V N) : ∀ j, j < N → K j ≠ 37 := zz.2.1
theorem TE.v {K V : Nat → Nat} {N : Nat} (zz : TE K V N) : ∀ j, K j = 36 → V j ≤ 9999 := zz.2.2.1
theorem TE.k {K V : Nat → Nat} {N : Nat} (zz : TE K V N) : ∀ j, K j ≤ 38 := zz.2.2.2.1
theorem TE.l {K V : Nat → Nat} {N : Nat} (zz : TE K V N) : N ≤ 400 := zz.2.2.2.2
theorem TE_s {K V : Nat → Nat} {N j : Nat} (h : TE K V N) (hj : j ≤ N) (hk : K j ≠ 37) : j + 1 ≤ N := by
  rcases Nat.lt_or_ge j N with z | z
  · exact z
  · have : j = N := by omega
    rw [this] at hk; exact absurd h.e hk
theorem put_1 (c : CS) (x : Cd) : (put c x).1 = c.1 + 1 := rfl
theorem fl_1 (w : Nat) (c : CS) : (fl w c).1 = c.1 + (if w = 0 then 0 else 1) := by
  unfold fl
  by_cases h : w = 0
  · rw [if_pos h, if_pos h]; rfl
  · rw [if_neg h, if_neg h]; rfl
theorem pU_ok {K V : Nat → Nat} {N j : Nat} {pt : Bool} {c : CS} {q : Nat × CS} (hE : TE K V N) (hj : j ≤ N) (h : pU K V pt j c = .ok q) : q.1 = j + 1 ∧ q.1 ≤ N ∧ q.2.1 = c.1 + 1 ∧ ∀ t : List Nat, t.length ≤ 29 → ∃ b, b ≠ 1 ∧ (pt = true → b = 2) ∧ EXT c q.2 t (b :: t) := by
  unfold pU at h
  by_cases c1 : ¬ K j = 36 ∧ (pt = true ∨ K j < 7 ∨ 15 < K j)
  · rw [if_pos c1] at h; cases h
  rw [if_neg c1] at h
  by_cases c2 : pt = true ∧ V j = 0
  · rw [if_pos c2] at h; cases h
  rw [if_neg c2] at h
  cases h
  refine ⟨rfl, TE_s hE hj (by omega), rfl, fun t ht => ?_⟩
  by_cases c3 : K j = 36
  · rw [if_pos c3]
    by_cases c4 : V j = 0
    · exact ⟨0, by omega, fun z => absurd ⟨z, c4⟩ c2, EXT_p (Or.inl ⟨V j, rfl, ht, hE.v j c3, by rw [if_pos c4]⟩)⟩
    · exact ⟨2, by omega, fun _ => rfl, EXT_p (Or.inl ⟨V j, rfl, ht, hE.v j c3, by rw [if_neg c4]⟩)⟩
  · rw [if_neg c3]
    have hpt : ¬ pt = true := fun z => c1 ⟨c3, Or.inl z⟩
    have h15 : ¬ 15 < K j := fun z => c1 ⟨c3, Or.inr (Or.inr z)⟩
    exact ⟨0, by omega, fun z => absurd z hpt, EXT_p (Or.inr (Or.inl ⟨K j - 7, rfl, by omega, ht, rfl⟩))⟩
/-- what stands above, a sum being read: w 0 alone, else with one that waits -/
def sW (w : Nat) (s t : List Nat) : Prop := (w = 0 ∧ ∃ a, a ≠ 1 ∧ s = a :: t) ∨ ((w = 2 ∨ w = 3) ∧ ∃ a b, a ≠ 1 ∧ b ≠ 1 ∧ s = b :: a :: t)
theorem fl_ok {w : Nat} {c : CS} {s t : List Nat} (h : sW w s t) : ∃ b, b ≠ 1 ∧ EXT c (fl w c) s (b :: t) := by
  rcases h with ⟨rfl, a, ha, rfl⟩ | ⟨hw, a, b, ha, hb, rfl⟩
  · exact ⟨a, ha, EXT_0 c _⟩
  · refine ⟨0, by omega, ?_⟩
    unfold fl
    rw [if_neg (by omega)]
    exact EXT_p (Or.inr (Or.inr (Or.inr ⟨w, b, a, t, rfl, rfl, Or.inl ⟨by omega, hb, ha, rfl⟩⟩)))
theorem smL_ok {K V : Nat → Nat} {N : Nat} (hE : TE K V N) : ∀ (m w j : Nat) (c : CS) (q : Nat × CS), j ≤ N → smL K V m w j c = .ok q → q.1 ≤ N ∧ j ≤ q.1 ∧ q.2.1 + j ≤ c.1 + (if w = 0 then 0 else 1) + q.1 ∧ ∀ s t, t.length ≤ 27 → sW w s t → ∃ b, b ≠ 1 ∧ EXT c q.2 s (b :: t)
  | 0, _, _, _, _, _, h => by cases h
  | m + 1, w, j, c, q, hj, h => by
    rw [smL] at h
    by_cases c1 : K j = 29 ∨ K j = 30
    · rw [if_pos c1] at h
      cases hu : pU K V (decide (K j = 30)) (j + 1) c with
      | error e => rw [hu] at h; cases h
      | ok u =>
        rw [hu] at h
        have hj1 := TE_s hE hj (by omega)
        obtain ⟨u1, u2, u3, u4⟩ := pU_ok hE hj1 hu
        obtain ⟨r1, r2, r3, r4⟩ := smL_ok hE m w u.1 _ q u2 h
        rw [put_1] at r3
        refine ⟨r1, by omega, by omega, fun s t ht hs => ?_⟩
        have hsl : s.length ≤ 29 := by
          rcases hs with ⟨_, a, _, rfl⟩ | ⟨_, a, b, _, _, rfl⟩
          · simp only [List.length_cons]; omega
          · simp only [List.length_cons]; omega
        obtain ⟨b, b1, b2, b3⟩ := u4 s hsl
        -- the join
        have hx : ∃ x s', x ≠ 1 ∧ s = x :: s' ∧ ∀ y, y ≠ 1 → sW w (y :: s') t := by
          rcases hs with ⟨hw, a, ha, rfl⟩ | ⟨hw, a, b, ha, hb, rfl⟩
          · exact ⟨a, t, ha, rfl, fun y hy => Or.inl ⟨hw, y, hy, rfl⟩⟩
          · exact ⟨b, a :: t, hb, rfl, fun y hy => Or.inr ⟨hw, a, y, ha, hy, rfl⟩⟩
        obtain ⟨x, s', hx1, rfl, hx2⟩ := hx
        have hj2 : EXT u.2 (put u.2 (Cd.op (if K j = 29 then 4 else 5))) (b :: x :: s') (0 :: s') := by
          refine EXT_p (Or.inr (Or.inr (Or.inr ⟨_, b, x, s', rfl, rfl, ?_⟩)))
          by_cases c29 : K j = 29
          · rw [if_pos c29]; exact Or.inl ⟨by omega, b1, hx1, rfl⟩
          · rw [if_neg c29]; exact Or.inr (Or.inl ⟨rfl, b2 (decide_eq_true (by omega)), hx1, rfl⟩)
        obtain ⟨b', hb1, hb2⟩ := r4 (0 :: s') t ht (hx2 0 (by omega))
        exact ⟨b', hb1, EXT_t (EXT_t b3 hj2) hb2⟩
    · rw [if_neg c1] at h
      by_cases c2 : K j = 27 ∨ K j = 28
      · rw [if_pos c2] at h
        cases hu : pU K V false (j + 1) (fl w c) with
        | error e => rw [hu] at h; cases h
        | ok u =>
          rw [hu] at h
          have hj1 := TE_s hE hj (by omega)
          obtain ⟨u1, u2, u3, u4⟩ := pU_ok hE hj1 hu
          obtain ⟨r1, r2, r3, r4⟩ := smL_ok hE m _ u.1 _ q u2 h
          rw [fl_1] at u3
          have hw' : (if K j = 27 then 2 else 3) = 2 ∨ (if K j = 27 then 2 else 3) = 3 := by
            by_cases z : K j = 27
            · rw [if_pos z]; omega
            · rw [if_neg z]; omega
          rw [if_neg (by omega)] at r3
          refine ⟨r1, by omega, by omega, fun s t ht hs => ?_⟩
          obtain ⟨b, b1, b2⟩ := fl_ok (c := c) hs
          obtain ⟨y, y1, _, y3⟩ := u4 (b :: t) (by simp only [List.length_cons]; omega)
          obtain ⟨b', hb1, hb2⟩ := r4 (y :: b :: t) t ht (Or.inr ⟨hw', b, y, b1, y1, rfl⟩)
          exact ⟨b', hb1, EXT_t (EXT_t b2 y3) hb2⟩
      · rw [if_neg c2] at h
        cases h
        refine ⟨hj, Nat.le_refl _, ?_, fun s t ht hs => fl_ok hs⟩
        show (fl w c).1 + j ≤ _
        rw [fl_1]
        exact Nat.le_refl _
theorem pSum_ok {K V : Nat → Nat} {N j : Nat} {c : CS} {q : Nat × CS} (hE : TE K V N) (hj : j ≤ N) (h : pSum K V j c = .ok q) : q.1 ≤ N ∧ j < q.1 ∧ q.2.1 + j ≤ c.1 + q.1 ∧ ∀ t : List Nat, t.length ≤ 27 → ∃ b, b ≠ 1 ∧ EXT c q.2 t (b :: t) := by
  unfold pSum at h
  cases hu : pU K V false j c with
  | error e => rw [hu] at h; cases h
  | ok u =>
    rw [hu] at h
    obtain ⟨u1, u2, u3, u4⟩ := pU_ok hE hj hu
    obtain ⟨r1, r2, r3, r4⟩ := smL_ok hE 400 0 u.1 _ q u2 h
    rw [if_pos rfl] at r3
    refine ⟨r1, by omega, by omega, fun t ht => ?_⟩
    obtain ⟨b, b1, _, b3⟩ := u4 t (by omega)
    obtain ⟨b', q1, q2⟩ := r4 (b :: t) t ht (Or.inl ⟨rfl, b, b1, rfl⟩)
    exact ⟨b', q1, EXT_t b3 q2⟩
/-- a condition that is read: one yes or no -/
abbrev CO (N j : Nat) (c : CS) (L : Nat) (q : Nat × CS) : Prop := (q.1 ≤ N) ∧ (j < q.1) ∧ (q.2.1 + j ≤ c.1 + q.1) ∧ (∀ t : List Nat, t.length ≤ L → EXT c q.2 t (1 :: t))
theorem CO.a {N j : Nat} {c : CS} {L : Nat} {q : Nat × CS} (zz : CO N j c L q) : q.1 ≤ N := zz.1
theorem CO.b {N j : Nat} {c : CS} {L : Nat} {q : Nat × CS} (zz : CO N j c L q) : j < q.1 := zz.2.1
theorem CO.n {N j : Nat} {c : CS} {L : Nat} {q : Nat × CS} (zz : CO N j c L q) : q.2.1 + j ≤ c.1 + q.1 := zz.2.2.1
theorem CO.t {N j : Nat} {c : CS} {L : Nat} {q : Nat × CS} (zz : CO N j c L q) : ∀ t : List Nat, t.length ≤ L → EXT c q.2 t (1 :: t) := zz.2.2.2
theorem pCmp_ok {K V : Nat → Nat} {N j : Nat} {c : CS} {q : Nat × CS} (hE : TE K V N) (hj : j ≤ N) (h : pCmp K V j c = .ok q) : CO N j c 26 q := by
  unfold pCmp at h
  cases hu : pSum K V j c with
  | error e => rw [hu] at h; cases h
  | ok u =>
    rw [hu] at h
    obtain ⟨u1, u2, u3, u4⟩ := pSum_ok hE hj hu
    by_cases c1 : K u.1 = 33 ∨ K u.1 = 34 ∨ K u.1 = 35
    · have h : (match pSum K V (u.1 + 1) u.2 with | .error e => .error e | .ok r => .ok (r.1, put r.2 (Cd.op (K u.1 - 27))) : PR) = .ok q := by rw [← h]; exact (if_pos c1).symm
      cases hr : pSum K V (u.1 + 1) u.2 with
      | error e => rw [hr] at h; cases h
      | ok r =>
        rw [hr] at h
        cases h
        have hj1 := TE_s hE u1 (by omega)
        obtain ⟨r1, r2, r3, r4⟩ := pSum_ok hE hj1 hr
        refine ⟨r1, by show j < r.1; omega, by show (put r.2 _).1 + j ≤ c.1 + r.1; rw [put_1]; omega, fun t ht => ?_⟩
        obtain ⟨a, a1, a2⟩ := u4 t (by omega)
        obtain ⟨b, b1, b2⟩ := r4 (a :: t) (by simp only [List.length_cons]; omega)
        exact EXT_t (EXT_t a2 b2) (EXT_p (Or.inr (Or.inr (Or.inr ⟨K u.1 - 27, b, a, t, rfl, rfl, Or.inr (Or.inr (Or.inl ⟨by omega, b1, a1, rfl⟩))⟩))))
    · have h : (Except.error (1, u.1) : PR) = .ok q := by rw [← h]; exact (if_neg c1).symm
      cases h
end
